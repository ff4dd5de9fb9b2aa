set_option maxRecDepth 4000 in
theorem ok_X12_tells_75 {p q : Nat} {I : pI} {J : pJ} {a1 : Int32} {a2 : Int32} {Q : pQ} {d : Nat} (hd : 3 ≤ d) (h : zwp (f_X12_tells a1 a2 (I 75 3) (I 79) (I 75 5) (I 91) (I 93) (I 76) (I 77)) (fun o0 => Q (.inl none) (zS p q I [(93, none, o0)] J []))) : pm_call M cost zext d 204 [.ref 75, .int a1, .int a2] (pm_st 108 (shp p q) I J) Q := by
  obtain ⟨d, rfl⟩ := zd1 hd rfl
  have hc := pm_call_m (M := M) (cost := cost) zext_m d
  refine z_in (L := [(93, none, (I 93))]) (K := []) (ls := [some (.ref 75), some (.int a1), some (.int a2)]) zmt_204 zco_204 rfl rfl (zid_a zid_n) zid_n ?_
  delta f_X12_tells at h
  refine g_aload_n (pc' := 1)  hc rfl rfl rfl rfl ?_
  refine z_getR (pc' := 4)  hc rfl rfl rfl sh_75 rfl rfl ?_
  refine g_iconst (pc' := 5) (v := (0 : Int32)) hc rfl zki_0 rfl ?_
  refine g_aload_n (pc' := 6)  hc rfl rfl rfl rfl ?_
  refine g_iload_n (pc' := 7)  hc rfl rfl rfl ?_
  refine g_iload_n (pc' := 8)  hc rfl rfl rfl ?_
  refine z_virt (as := [.int a1, .int a2]) (a := 75) (r := [.int (0 : Int32), .ref 93]) hc rfl rfl rfl rfl sh_75 rfl zco_203 rfl rfl rfl ?_
  refine ok_X12_stepOf_75 (zdp hd rfl) (zwp_mono (zwp_bind h) ?_)
  rintro r1 h
  refine z_po (pc' := 11) (st' := [.int r1, .int (0 : Int32), .ref 93]) (v := (some (.int r1))) (L' := [(93, none, (I 93))]) (K' := []) zco_203 rfl rfl rfl rfl rfl rfl rfl rfl ?_
  refine z_iastore (pc' := 12) (g := (I 93)) (L' := [(93, none, (upd ((I 93)) 0 r1))]) hc rfl rfl sh_93 (by decide) rfl rfl rfl rfl ?_
  refine g_aload_n (pc' := 13)  hc rfl rfl rfl rfl ?_
  refine z_getR (pc' := 16)  hc rfl rfl rfl sh_75 rfl rfl ?_
  refine g_iconst (pc' := 17) (v := (1 : Int32)) hc rfl zki_1 rfl ?_
  refine g_aload_n (pc' := 18)  hc rfl rfl rfl rfl ?_
  refine z_getR (pc' := 21)  hc rfl rfl rfl sh_75 rfl rfl ?_
  refine g_iload_n (pc' := 22)  hc rfl rfl rfl ?_
  refine g_bipush (pc' := 24) (v := (9 : Int32)) hc rfl zkb_9 rfl ?_
  refine g_iadd (pc' := 25)  hc rfl rfl ?_
  refine g_iload_n (pc' := 26)  hc rfl rfl rfl ?_
  refine g_iadd (pc' := 27)  hc rfl rfl ?_
  have hb := (zwp_bnd h).1
  replace h := (zwp_bnd h).2
  refine z_iaload (pc' := 28) (v := (((I 91)) ((a1 + (9 : Int32)) + a2).toNatClampNeg)) hc rfl rfl sh_91 hb rfl rfl ?_
  refine z_iastore (pc' := 29) (g := (upd ((I 93)) 0 r1)) (L' := [(93, none, (upd (upd ((I 93)) 0 r1) 1 (((I 91)) ((a1 + (9 : Int32)) + a2).toNatClampNeg)))]) hc rfl rfl sh_93 (by decide) rfl rfl rfl rfl ?_
  refine g_aload_n (pc' := 30)  hc rfl rfl rfl rfl ?_
  refine z_getR (pc' := 33)  hc rfl rfl rfl sh_75 rfl rfl ?_
  refine g_iconst (pc' := 34) (v := (2 : Int32)) hc rfl zki_2 rfl ?_
  refine g_aload_n (pc' := 35)  hc rfl rfl rfl rfl ?_
  refine g_aload_n (pc' := 36)  hc rfl rfl rfl rfl ?_
  refine z_getR (pc' := 39)  hc rfl rfl rfl sh_75 rfl rfl ?_
  refine g_iload_n (pc' := 40)  hc rfl rfl rfl ?_
  refine g_iconst (pc' := 41) (v := (0 : Int32)) hc rfl zki_0 rfl ?_
  refine g_iadd (pc' := 42)  hc rfl rfl ?_
  have hb := (zwp_bnd h).1
  replace h := (zwp_bnd h).2
  refine z_iaload (pc' := 43) (v := (((I 91)) (a1 + (0 : Int32)).toNatClampNeg)) hc rfl rfl sh_91 hb rfl rfl ?_
  refine z_virt (as := [.int (((I 91)) (a1 + (0 : Int32)).toNatClampNeg)]) (a := 75) (r := [.int (2 : Int32), .ref 93]) hc rfl rfl rfl rfl sh_75 rfl zco_199 rfl rfl rfl ?_
  refine ok_X12_lightAt_75 (zdp hd rfl) (zwp_mono (zwp_bind h) ?_)
  rintro r2 h
  refine z_po (pc' := 46) (st' := [.int r2, .int (2 : Int32), .ref 93]) (v := (some (.int r2))) (L' := [(93, none, (upd (upd ((I 93)) 0 r1) 1 (((I 91)) ((a1 + (9 : Int32)) + a2).toNatClampNeg)))]) (K' := []) zco_199 rfl rfl rfl rfl rfl rfl rfl rfl ?_
  refine z_iastore (pc' := 47) (g := (upd (upd ((I 93)) 0 r1) 1 (((I 91)) ((a1 + (9 : Int32)) + a2).toNatClampNeg))) (L' := [(93, none, (upd (upd (upd ((I 93)) 0 r1) 1 (((I 91)) ((a1 + (9 : Int32)) + a2).toNatClampNeg)) 2 r2))]) hc rfl rfl sh_93 (by decide) rfl rfl rfl rfl ?_
  refine g_aload_n (pc' := 48)  hc rfl rfl rfl rfl ?_
  refine z_getR (pc' := 51)  hc rfl rfl rfl sh_75 rfl rfl ?_
  refine g_iconst (pc' := 52) (v := (3 : Int32)) hc rfl zki_3 rfl ?_
  refine g_aload_n (pc' := 53)  hc rfl rfl rfl rfl ?_
  refine g_iload_n (pc' := 54)  hc rfl rfl rfl ?_
  refine g_iload_n (pc' := 55)  hc rfl rfl rfl ?_
  refine z_virt (as := [.int a1, .int a2]) (a := 75) (r := [.int (3 : Int32), .ref 93]) hc rfl rfl rfl rfl sh_75 rfl zco_202 rfl rfl rfl ?_
  refine ok_X12_withIt_75 (zdp hd rfl) (zwp_mono (zwp_bind h) ?_)
  rintro r3 h
  refine z_po (pc' := 58) (st' := [.int r3, .int (3 : Int32), .ref 93]) (v := (some (.int r3))) (L' := [(93, none, (upd (upd (upd ((I 93)) 0 r1) 1 (((I 91)) ((a1 + (9 : Int32)) + a2).toNatClampNeg)) 2 r2))]) (K' := []) zco_202 rfl rfl rfl rfl rfl rfl rfl rfl ?_
  refine z_iastore (pc' := 59) (g := (upd (upd (upd ((I 93)) 0 r1) 1 (((I 91)) ((a1 + (9 : Int32)) + a2).toNatClampNeg)) 2 r2)) (L' := [(93, none, (upd (upd (upd (upd ((I 93)) 0 r1) 1 (((I 91)) ((a1 + (9 : Int32)) + a2).toNatClampNeg)) 2 r2) 3 r3))]) hc rfl rfl sh_93 (by decide) rfl rfl rfl rfl ?_
  refine g_aload_n (pc' := 60)  hc rfl rfl rfl rfl ?_
  refine z_getR (pc' := 63)  hc rfl rfl rfl sh_75 rfl rfl ?_
  refine g_iconst (pc' := 64) (v := (4 : Int32)) hc rfl zki_4 rfl ?_
  refine g_aload_n (pc' := 65)  hc rfl rfl rfl rfl ?_
  refine z_getR (pc' := 68)  hc rfl rfl rfl sh_75 rfl rfl ?_
  refine g_iload_n (pc' := 69)  hc rfl rfl rfl ?_
  refine g_iconst (pc' := 70) (v := (0 : Int32)) hc rfl zki_0 rfl ?_
  refine g_iadd (pc' := 71)  hc rfl rfl ?_
  have hb := (zwp_bnd h).1
  replace h := (zwp_bnd h).2
  refine z_iaload (pc' := 72) (v := (((I 91)) (a1 + (0 : Int32)).toNatClampNeg)) hc rfl rfl sh_91 hb rfl rfl ?_
  refine z_iastore (pc' := 73) (g := (upd (upd (upd (upd ((I 93)) 0 r1) 1 (((I 91)) ((a1 + (9 : Int32)) + a2).toNatClampNeg)) 2 r2) 3 r3)) (L' := [(93, none, (upd (upd (upd (upd (upd ((I 93)) 0 r1) 1 (((I 91)) ((a1 + (9 : Int32)) + a2).toNatClampNeg)) 2 r2) 3 r3) 4 (((I 91)) (a1 + (0 : Int32)).toNatClampNeg)))]) hc rfl rfl sh_93 (by decide) rfl rfl rfl rfl ?_
  refine g_aload_n (pc' := 74)  hc rfl rfl rfl rfl ?_
  refine z_getR (pc' := 77)  hc rfl rfl rfl sh_75 rfl rfl ?_
  refine g_iconst (pc' := 78) (v := (5 : Int32)) hc rfl zki_5 rfl ?_
  refine g_aload_n (pc' := 79)  hc rfl rfl rfl rfl ?_
  refine z_getR (pc' := 82)  hc rfl rfl rfl sh_75 rfl rfl ?_
  refine g_iload_n (pc' := 83)  hc rfl rfl rfl ?_
  refine g_bipush (pc' := 85) (v := (17 : Int32)) hc rfl zkb_17 rfl ?_
  refine g_iadd (pc' := 86)  hc rfl rfl ?_
  refine g_iload_n (pc' := 87)  hc rfl rfl rfl ?_
  refine g_iadd (pc' := 88)  hc rfl rfl ?_
  have hb := (zwp_bnd h).1
  replace h := (zwp_bnd h).2
  refine z_iaload (pc' := 89) (v := (((I 91)) ((a1 + (17 : Int32)) + a2).toNatClampNeg)) hc rfl rfl sh_91 hb rfl rfl ?_
  refine z_iastore (pc' := 90) (g := (upd (upd (upd (upd (upd ((I 93)) 0 r1) 1 (((I 91)) ((a1 + (9 : Int32)) + a2).toNatClampNeg)) 2 r2) 3 r3) 4 (((I 91)) (a1 + (0 : Int32)).toNatClampNeg))) (L' := [(93, none, (upd (upd (upd (upd (upd (upd ((I 93)) 0 r1) 1 (((I 91)) ((a1 + (9 : Int32)) + a2).toNatClampNeg)) 2 r2) 3 r3) 4 (((I 91)) (a1 + (0 : Int32)).toNatClampNeg)) 5 (((I 91)) ((a1 + (17 : Int32)) + a2).toNatClampNeg)))]) hc rfl rfl sh_93 (by decide) rfl rfl rfl rfl ?_
  replace h := zws h
  exact g_return hc rfl rfl (fun _ => ⟨rfl, rfl⟩) h
set_option maxRecDepth 4000 in
theorem ok_X12_works {p q : Nat} {I : pI} {J : pJ} {a0 : Int32} {a1 : Int32} {a2 : Int32} {Q : pQ} {d : Nat} (hd : 1 ≤ d) (h : zwp (f_X12_works a0 a1 a2) (fun r => Q (.inl (some (.int r))) (zS p q I [] J []))) : pm_call M cost zext d 197 [.int a0, .int a1, .int a2] (pm_st 108 (shp p q) I J) Q := by
  obtain ⟨d, rfl⟩ := zd1 hd rfl
  have hc := pm_call_m (M := M) (cost := cost) zext_m d
  refine z_in (L := []) (K := []) (ls := [some (.int a0), some (.int a1), some (.int a2)]) zmt_197 zco_197 rfl rfl zid_n zid_n ?_
  delta f_X12_works at h
  refine g_iload_n (pc' := 1)  hc rfl rfl rfl ?_
  by_cases hx1 : a0 = (4 : Int32)
  · replace h := zwp_t h hx1
    refine z_switch (pc' := 44) hc rfl (by rw [hx1]; decide +kernel) ?_
    refine g_iload_n (pc' := 45)  hc rfl rfl rfl ?_
    refine g_if_eq (pc' := 48) hc rfl rfl (fun hx => ?_) (fun hx => ?_)
    · replace h := zwp_t h hx
      refine g_iconst (pc' := 57) (v := (0 : Int32)) hc rfl zki_0 rfl ?_
      replace h := zws h
      exact g_ireturn hc rfl rfl rfl (fun _ => ⟨rfl, rfl⟩) h
    · replace h := zwp_f h hx
      refine g_iload_n (pc' := 49)  hc rfl rfl rfl ?_
      refine g_if_eq (pc' := 52) hc rfl rfl (fun hx => ?_) (fun hx => ?_)
      · replace h := zwp_t h hx
        refine g_iconst (pc' := 57) (v := (0 : Int32)) hc rfl zki_0 rfl ?_
        replace h := zws h
        exact g_ireturn hc rfl rfl rfl (fun _ => ⟨rfl, rfl⟩) h
      · replace h := zwp_f h hx
        refine g_iconst (pc' := 53) (v := (1 : Int32)) hc rfl zki_1 rfl ?_
        refine g_goto hc rfl ?_
        replace h := zws h
        exact g_ireturn hc rfl rfl rfl (fun _ => ⟨rfl, rfl⟩) h
  replace h := zwp_f h hx1
  by_cases hx2 : a0 = (5 : Int32)
  · replace h := zwp_t h hx2
    refine z_switch (pc' := 58) hc rfl (by rw [hx2]; decide +kernel) ?_
    refine g_iload_n (pc' := 59)  hc rfl rfl rfl ?_
    refine g_if_ne (pc' := 62) hc rfl rfl (fun hx => ?_) (fun hx => ?_)
    · replace h := zwp_f h hx
      refine g_iconst (pc' := 67) (v := (1 : Int32)) hc rfl zki_1 rfl ?_
      refine g_goto hc rfl ?_
      replace h := zws h
      exact g_ireturn hc rfl rfl rfl (fun _ => ⟨rfl, rfl⟩) h
    · replace h := zwp_t h hx
      refine g_iload_n (pc' := 63)  hc rfl rfl rfl ?_
      refine g_if_eq (pc' := 66) hc rfl rfl (fun hx => ?_) (fun hx => ?_)
      · replace h := zwp_t h hx
        refine g_iconst (pc' := 71) (v := (0 : Int32)) hc rfl zki_0 rfl ?_
        replace h := zws h
        exact g_ireturn hc rfl rfl rfl (fun _ => ⟨rfl, rfl⟩) h
      · replace h := zwp_f h hx
        refine g_iconst (pc' := 67) (v := (1 : Int32)) hc rfl zki_1 rfl ?_
        refine g_goto hc rfl ?_
        replace h := zws h
        exact g_ireturn hc rfl rfl rfl (fun _ => ⟨rfl, rfl⟩) h
  replace h := zwp_f h hx2
  by_cases hx3 : a0 = (6 : Int32)
  · replace h := zwp_t h hx3
    refine z_switch (pc' := 72) hc rfl (by rw [hx3]; decide +kernel) ?_
    refine g_iload_n (pc' := 73)  hc rfl rfl rfl ?_
    refine g_iload_n (pc' := 74)  hc rfl rfl rfl ?_
    refine g_icmp_ge (pc' := 77) hc rfl rfl (fun hx => ?_) (fun hx => ?_)
    · replace h := zwp_t h hx
      refine g_iconst (pc' := 82) (v := (0 : Int32)) hc rfl zki_0 rfl ?_
      replace h := zws h
      exact g_ireturn hc rfl rfl rfl (fun _ => ⟨rfl, rfl⟩) h
    · replace h := zwp_f h hx
      refine g_iconst (pc' := 78) (v := (1 : Int32)) hc rfl zki_1 rfl ?_
      refine g_goto hc rfl ?_
      replace h := zws h
      exact g_ireturn hc rfl rfl rfl (fun _ => ⟨rfl, rfl⟩) h
  replace h := zwp_f h hx3
  by_cases hx4 : a0 = (7 : Int32)
  · replace h := zwp_t h hx4
    refine z_switch (pc' := 83) hc rfl (by rw [hx4]; decide +kernel) ?_
    refine g_iload_n (pc' := 84)  hc rfl rfl rfl ?_
    refine g_iload_n (pc' := 85)  hc rfl rfl rfl ?_
    refine g_icmp_ne (pc' := 88) hc rfl rfl (fun hx => ?_) (fun hx => ?_)
    · replace h := zwp_f h hx
      refine g_iconst (pc' := 93) (v := (0 : Int32)) hc rfl zki_0 rfl ?_
      replace h := zws h
      exact g_ireturn hc rfl rfl rfl (fun _ => ⟨rfl, rfl⟩) h
    · replace h := zwp_t h hx
      refine g_iconst (pc' := 89) (v := (1 : Int32)) hc rfl zki_1 rfl ?_
      refine g_goto hc rfl ?_
      replace h := zws h
      exact g_ireturn hc rfl rfl rfl (fun _ => ⟨rfl, rfl⟩) h
  replace h := zwp_f h hx4
  by_cases hx5 : a0 = (8 : Int32)
  · replace h := zwp_t h hx5
    refine z_switch (pc' := 94) hc rfl (by rw [hx5]; decide +kernel) ?_
    refine g_iload_n (pc' := 95)  hc rfl rfl rfl ?_
    refine g_iload_n (pc' := 96)  hc rfl rfl rfl ?_
    refine g_iadd (pc' := 97)  hc rfl rfl ?_
    replace h := zws h
    exact g_ireturn hc rfl rfl rfl (fun _ => ⟨rfl, rfl⟩) h
  replace h := zwp_f h hx5
  by_cases hx6 : a0 = (9 : Int32)
  · replace h := zwp_t h hx6
    refine z_switch (pc' := 98) hc rfl (by rw [hx6]; decide +kernel) ?_
    refine g_iload_n (pc' := 99)  hc rfl rfl rfl ?_
    refine g_iload_n (pc' := 100)  hc rfl rfl rfl ?_
    refine g_isub (pc' := 101)  hc rfl rfl ?_
    replace h := zws h
    exact g_ireturn hc rfl rfl rfl (fun _ => ⟨rfl, rfl⟩) h
  replace h := zwp_f h hx6
  by_cases hx7 : a0 = (10 : Int32)
  · replace h := zwp_t h hx7
    refine z_switch (pc' := 102) hc rfl (by rw [hx7]; decide +kernel) ?_
    refine g_iload_n (pc' := 103)  hc rfl rfl rfl ?_
    refine g_iload_n (pc' := 104)  hc rfl rfl rfl ?_
    refine g_imul (pc' := 105)  hc rfl rfl ?_
    replace h := zws h
    exact g_ireturn hc rfl rfl rfl (fun _ => ⟨rfl, rfl⟩) h
  replace h := zwp_f h hx7
  refine z_switch (pc' := 106) hc rfl (zsw_df (told := [(4 : Int32), (5 : Int32), (6 : Int32), (7 : Int32), (8 : Int32), (9 : Int32), (10 : Int32)]) (by decide +kernel) (by decide) rfl (zne_c hx1 (zne_c hx2 (zne_c hx3 (zne_c hx4 (zne_c hx5 (zne_c hx6 (zne_c hx7 zne_n)))))))) ?_
  refine g_iload_n (pc' := 107)  hc rfl rfl rfl ?_
  refine g_if_ne (pc' := 110) hc rfl rfl (fun hx => ?_) (fun hx => ?_)
  · replace h := zwp_f h hx
    refine g_iload_n (pc' := 115)  hc rfl rfl rfl ?_
    refine g_iload_n (pc' := 116)  hc rfl rfl rfl ?_
    have hz := (zwp_nz h).1
    replace h := (zwp_nz h).2
    refine g_idiv (pc' := 117)  hc rfl hz rfl ?_
    replace h := zws h
    exact g_ireturn hc rfl rfl rfl (fun _ => ⟨rfl, rfl⟩) h
  · replace h := zwp_t h hx
    refine g_iconst (pc' := 111) (v := (0 : Int32)) hc rfl zki_0 rfl ?_
    refine g_goto hc rfl ?_
    replace h := zws h
    exact g_ireturn hc rfl rfl rfl (fun _ => ⟨rfl, rfl⟩) h
set_option maxRecDepth 4000 in
theorem ok_X12_reckons_75 {p q : Nat} {I : pI} {J : pJ} {a1 : Int32} {Q : pQ} {d : Nat} (hd : 2 ≤ d) (h : zwp (f_X12_reckons a1 (I 80) (I 94) (I 93)) (fun w => match w with | (r, o0) => Q (.inl (some (.int r))) (zS p q I [(94, none, o0)] J []))) : pm_call M cost zext d 198 [.ref 75, .int a1] (pm_st 108 (shp p q) I J) Q := by
  obtain ⟨d, rfl⟩ := zd1 hd rfl
  have hc := pm_call_m (M := M) (cost := cost) zext_m d
  refine z_in (L := [(94, none, (I 94))]) (K := []) (ls := [some (.ref 75), some (.int a1), none, none, none]) zmt_198 zco_198 rfl rfl (zid_a zid_n) zid_n ?_
  delta f_X12_reckons at h
  refine g_iconst (pc' := 1) (v := (0 : Int32)) hc rfl zki_0 rfl ?_
  refine g_istore_n (pc' := 2) (ls1 := [some (.ref 75), some (.int a1), some (.int (0 : Int32)), none, none]) hc rfl (zlt rfl) rfl rfl ?_
  refine g_iload_n (pc' := 3)  hc rfl rfl rfl ?_
  refine g_istore_n (pc' := 4) (ls1 := [some (.ref 75), some (.int a1), some (.int (0 : Int32)), some (.int a1), none]) hc rfl (zlt rfl) rfl rfl ?_
  refine zjn (G := (fun (y8 : (Nat → Int32)) => ∀ z5 : Option Value, znl z5 = true → ∀ z6 : Option Value, znl z6 = true → ∀ z7 : Option Value, znl z7 = true → pm_ev C_X12_reckons (d + 1) (pm_call M cost zext d) cost (false, false) 108 0 0 Q 143 [some (.ref 75), some (.int a1), z5, z6, z7] [] 0 0 (zS p q I [(94, none, y8)] J []))) (zwp_bind h) ?_ (fun h => ?_)
  · rintro y8 h z5 hz5 z6 hz6 z7 hz7
    refine g_aload_n (pc' := 144)  hc rfl rfl rfl rfl ?_
    refine z_getR (pc' := 147)  hc rfl rfl rfl sh_75 rfl rfl ?_
    refine g_iconst (pc' := 148) (v := (0 : Int32)) hc rfl zki_0 rfl ?_
    refine z_iaload (pc' := 149) (v := (y8 0)) hc rfl rfl sh_94 (by decide) rfl rfl ?_
    replace h := zws h
    exact g_ireturn hc rfl rfl rfl (fun _ => ⟨rfl, rfl⟩) h
  refine zitr_ev (G := (fun (g : Int32 × Int32 × (Nat → Int32)) => match g with | (x1, x2, x4) => ∀ z3 : Option Value, znl z3 = true → pm_ev C_X12_reckons (d + 1) (pm_call M cost zext d) cost (false, false) 108 0 0 Q 4 [some (.ref 75), some (.int a1), some (.int x1), some (.int x2), z3] [] 0 0 (zS p q I [(94, none, x4)] J []))) ?_ zFU ((0 : Int32), a1, (I 94)) h none rfl
  rintro ⟨x1, x2, x4⟩ h z3 hz3
  refine g_aload_n (pc' := 5)  hc rfl rfl rfl rfl ?_
  refine z_getR (pc' := 8)  hc rfl rfl rfl sh_75 rfl rfl ?_
  refine g_iload_n (pc' := 9)  hc rfl rfl rfl ?_
  have hb := (zwp_bnd h).1
  replace h := (zwp_bnd h).2
  refine z_iaload (pc' := 10) (v := (((I 80)) x2.toNatClampNeg)) hc rfl rfl sh_80 hb rfl rfl ?_
  refine g_if_eq (pc' := 13) hc rfl rfl (fun hx => ?_) (fun hx => ?_)
  · replace h := zwp_t h hx
    replace h := zwp_r h
    exact h (some (.int x1)) rfl (some (.int x2)) rfl z3 hz3
  · replace h := zwp_f h hx
    refine g_aload_n (pc' := 14)  hc rfl rfl rfl rfl ?_
    refine z_getR (pc' := 17)  hc rfl rfl rfl sh_75 rfl rfl ?_
    refine g_iload_n (pc' := 18)  hc rfl rfl rfl ?_
    have hb := (zwp_bnd h).1
    replace h := (zwp_bnd h).2
    refine z_iaload (pc' := 19) (v := (((I 80)) x2.toNatClampNeg)) hc rfl rfl sh_80 hb rfl rfl ?_
    refine g_istore (pc' := 21) (ls1 := [some (.ref 75), some (.int a1), some (.int x1), some (.int x2), some (.int (((I 80)) x2.toNatClampNeg))]) hc rfl (zlt rfl) rfl rfl ?_
    refine g_iinc (pc' := 24) (ls1 := [some (.ref 75), some (.int a1), some (.int x1), some (.int (x2 + (1 : Int32))), some (.int (((I 80)) x2.toNatClampNeg))]) hc rfl rfl zki_1 (zlt rfl) rfl rfl ?_
    refine g_iload (pc' := 26)  hc rfl rfl rfl ?_
    refine g_iconst (pc' := 27) (v := (1 : Int32)) hc rfl zki_1 rfl ?_
    refine g_icmp_eq (pc' := 30) hc rfl rfl (fun hx => ?_) (fun hx => ?_)
    · replace h := zwp_t h hx
      refine g_aload_n (pc' := 37)  hc rfl rfl rfl rfl ?_
      refine z_getR (pc' := 40)  hc rfl rfl rfl sh_75 rfl rfl ?_
      refine g_iload_n (pc' := 41)  hc rfl rfl rfl ?_
      refine g_iload (pc' := 43)  hc rfl rfl rfl ?_
      refine g_iconst (pc' := 44) (v := (1 : Int32)) hc rfl zki_1 rfl ?_
      refine zjn (G := (fun (j9 : Int32) => pm_ev C_X12_reckons (d + 1) (pm_call M cost zext d) cost (false, false) 108 0 0 Q 67 [some (.ref 75), some (.int a1), some (.int x1), some (.int (x2 + (1 : Int32))), some (.int (((I 80)) x2.toNatClampNeg))] [.int j9, .int x1, .ref 94] 0 0 (zS p q I [(94, none, x4)] J []))) (zwp_bind h) ?_ (fun h => ?_)
      · rintro j9 h
        have hb := (zwp_bnd h).1
        replace h := (zwp_bnd h).2
        refine z_iastore (pc' := 68) (g := x4) (L' := [(94, none, (upd x4 x1.toNatClampNeg j9))]) hc rfl rfl sh_94 hb rfl rfl rfl rfl ?_
        refine g_iinc (pc' := 71) (ls1 := [some (.ref 75), some (.int a1), some (.int x1), some (.int ((x2 + (1 : Int32)) + (1 : Int32))), some (.int (((I 80)) x2.toNatClampNeg))]) hc rfl rfl zki_1 (zlt rfl) rfl rfl ?_
        refine g_iinc (pc' := 74) (ls1 := [some (.ref 75), some (.int a1), some (.int (x1 + (1 : Int32))), some (.int ((x2 + (1 : Int32)) + (1 : Int32))), some (.int (((I 80)) x2.toNatClampNeg))]) hc rfl rfl zki_1 (zlt rfl) rfl rfl ?_
        refine g_goto hc rfl ?_
        refine g_goto hc rfl ?_
        replace h := zwp_l h
        exact h (some (.int (((I 80)) x2.toNatClampNeg))) rfl
      refine g_icmp_ne (pc' := 47) hc rfl rfl (fun hx => ?_) (fun hx => ?_)
      · replace h := zwp_f h hx
        refine g_aload_n (pc' := 57)  hc rfl rfl rfl rfl ?_
        refine z_getR (pc' := 60)  hc rfl rfl rfl sh_75 rfl rfl ?_
        refine g_aload_n (pc' := 61)  hc rfl rfl rfl rfl ?_
        refine z_getR (pc' := 64)  hc rfl rfl rfl sh_75 rfl rfl ?_
        refine g_iload_n (pc' := 65)  hc rfl rfl rfl ?_
        have hb := (zwp_bnd h).1
        replace h := (zwp_bnd h).2
        refine z_iaload (pc' := 66) (v := (((I 80)) (x2 + (1 : Int32)).toNatClampNeg)) hc rfl rfl sh_80 hb rfl rfl ?_
        have hb := (zwp_bnd h).1
        replace h := (zwp_bnd h).2
        refine z_iaload (pc' := 67) (v := (((I 93)) (((I 80)) (x2 + (1 : Int32)).toNatClampNeg).toNatClampNeg)) hc rfl rfl sh_93 hb rfl rfl ?_
        replace h := zws h
        exact h
      · replace h := zwp_t h hx
        refine g_aload_n (pc' := 48)  hc rfl rfl rfl rfl ?_
        refine z_getR (pc' := 51)  hc rfl rfl rfl sh_75 rfl rfl ?_
        refine g_iload_n (pc' := 52)  hc rfl rfl rfl ?_
        have hb := (zwp_bnd h).1
        replace h := (zwp_bnd h).2
        refine z_iaload (pc' := 53) (v := (((I 80)) (x2 + (1 : Int32)).toNatClampNeg)) hc rfl rfl sh_80 hb rfl rfl ?_
        refine g_goto hc rfl ?_
        replace h := zws h
        exact h
    · replace h := zwp_f h hx
      refine g_iload (pc' := 32)  hc rfl rfl rfl ?_
      refine g_iconst (pc' := 33) (v := (2 : Int32)) hc rfl zki_2 rfl ?_
      refine g_icmp_ne (pc' := 36) hc rfl rfl (fun hx => ?_) (fun hx => ?_)
      · replace h := zwp_f h hx
        refine g_iload (pc' := 79)  hc rfl rfl rfl ?_
        refine g_iconst (pc' := 80) (v := (3 : Int32)) hc rfl zki_3 rfl ?_
        refine g_icmp_ne (pc' := 83) hc rfl rfl (fun hx => ?_) (fun hx => ?_)
        · replace h := zwp_f h hx
          refine g_iinc (pc' := 113) (ls1 := [some (.ref 75), some (.int a1), some (.int (x1 + (-1 : Int32))), some (.int (x2 + (1 : Int32))), some (.int (((I 80)) x2.toNatClampNeg))]) hc rfl rfl zki_m1 (zlt rfl) rfl rfl ?_
          refine g_aload_n (pc' := 114)  hc rfl rfl rfl rfl ?_
          refine z_getR (pc' := 117)  hc rfl rfl rfl sh_75 rfl rfl ?_
          refine g_iload_n (pc' := 118)  hc rfl rfl rfl ?_
          refine g_iconst (pc' := 119) (v := (1 : Int32)) hc rfl zki_1 rfl ?_
          refine g_isub (pc' := 120)  hc rfl rfl ?_
          refine g_iload (pc' := 122)  hc rfl rfl rfl ?_
          refine g_aload_n (pc' := 123)  hc rfl rfl rfl rfl ?_
          refine z_getR (pc' := 126)  hc rfl rfl rfl sh_75 rfl rfl ?_
          refine g_iload_n (pc' := 127)  hc rfl rfl rfl ?_
          refine g_iconst (pc' := 128) (v := (1 : Int32)) hc rfl zki_1 rfl ?_
          refine g_isub (pc' := 129)  hc rfl rfl ?_
          have hb := (zwp_bnd h).1
          replace h := (zwp_bnd h).2
          refine z_iaload (pc' := 130) (v := (x4 ((x1 + (-1 : Int32)) - (1 : Int32)).toNatClampNeg)) hc rfl rfl sh_94 hb rfl rfl ?_
          refine g_aload_n (pc' := 131)  hc rfl rfl rfl rfl ?_
          refine z_getR (pc' := 134)  hc rfl rfl rfl sh_75 rfl rfl ?_
          refine g_iload_n (pc' := 135)  hc rfl rfl rfl ?_
          have hb := (zwp_bnd h).1
          replace h := (zwp_bnd h).2
          refine z_iaload (pc' := 136) (v := (x4 (x1 + (-1 : Int32)).toNatClampNeg)) hc rfl rfl sh_94 hb rfl rfl ?_
          refine z_stat (as := [.int (((I 80)) x2.toNatClampNeg), .int (x4 ((x1 + (-1 : Int32)) - (1 : Int32)).toNatClampNeg), .int (x4 (x1 + (-1 : Int32)).toNatClampNeg)]) (r := [.int ((x1 + (-1 : Int32)) - (1 : Int32)), .ref 94]) hc rfl rfl rfl rfl zco_197 rfl rfl rfl ?_
          refine ok_X12_works (zdp hd rfl) (zwp_mono (zwp_bind h) ?_)
          rintro r10 h
          refine z_po (pc' := 139) (st' := [.int r10, .int ((x1 + (-1 : Int32)) - (1 : Int32)), .ref 94]) (v := (some (.int r10))) (L' := [(94, none, x4)]) (K' := []) zco_197 rfl rfl rfl rfl rfl rfl rfl rfl ?_
          have hb := (zwp_bnd h).1
          replace h := (zwp_bnd h).2
          refine z_iastore (pc' := 140) (g := x4) (L' := [(94, none, (upd x4 ((x1 + (-1 : Int32)) - (1 : Int32)).toNatClampNeg r10))]) hc rfl rfl sh_94 hb rfl rfl rfl rfl ?_
          refine g_goto hc rfl ?_
          replace h := zwp_l h
          exact h (some (.int (((I 80)) x2.toNatClampNeg))) rfl
        · replace h := zwp_t h hx
          refine g_aload_n (pc' := 84)  hc rfl rfl rfl rfl ?_
          refine z_getR (pc' := 87)  hc rfl rfl rfl sh_75 rfl rfl ?_
          refine g_iload_n (pc' := 88)  hc rfl rfl rfl ?_
          refine g_iconst (pc' := 89) (v := (1 : Int32)) hc rfl zki_1 rfl ?_
          refine g_isub (pc' := 90)  hc rfl rfl ?_
          refine g_aload_n (pc' := 91)  hc rfl rfl rfl rfl ?_
          refine z_getR (pc' := 94)  hc rfl rfl rfl sh_75 rfl rfl ?_
          refine g_iload_n (pc' := 95)  hc rfl rfl rfl ?_
          refine g_iconst (pc' := 96) (v := (1 : Int32)) hc rfl zki_1 rfl ?_
          refine g_isub (pc' := 97)  hc rfl rfl ?_
          have hb := (zwp_bnd h).1
          replace h := (zwp_bnd h).2
          refine z_iaload (pc' := 98) (v := (x4 (x1 - (1 : Int32)).toNatClampNeg)) hc rfl rfl sh_94 hb rfl rfl ?_
          refine zjn (G := (fun (j11 : Int32) => pm_ev C_X12_reckons (d + 1) (pm_call M cost zext d) cost (false, false) 108 0 0 Q 106 [some (.ref 75), some (.int a1), some (.int x1), some (.int (x2 + (1 : Int32))), some (.int (((I 80)) x2.toNatClampNeg))] [.int j11, .int (x1 - (1 : Int32)), .ref 94] 0 0 (zS p q I [(94, none, x4)] J []))) (zwp_bind h) ?_ (fun h => ?_)
          · rintro j11 h
            have hb := (zwp_bnd h).1
            replace h := (zwp_bnd h).2
            refine z_iastore (pc' := 107) (g := x4) (L' := [(94, none, (upd x4 (x1 - (1 : Int32)).toNatClampNeg j11))]) hc rfl rfl sh_94 hb rfl rfl rfl rfl ?_
            refine g_goto hc rfl ?_
            refine g_goto hc rfl ?_
            replace h := zwp_l h
            exact h (some (.int (((I 80)) x2.toNatClampNeg))) rfl
          refine g_if_ne (pc' := 101) hc rfl rfl (fun hx => ?_) (fun hx => ?_)
          · replace h := zwp_f h hx
            refine g_iconst (pc' := 106) (v := (0 : Int32)) hc rfl zki_0 rfl ?_
            replace h := zws h
            exact h
          · replace h := zwp_t h hx
            refine g_iconst (pc' := 102) (v := (1 : Int32)) hc rfl zki_1 rfl ?_
            refine g_goto hc rfl ?_
            replace h := zws h
            exact h
      · replace h := zwp_t h hx
        refine g_aload_n (pc' := 37)  hc rfl rfl rfl rfl ?_
        refine z_getR (pc' := 40)  hc rfl rfl rfl sh_75 rfl rfl ?_
        refine g_iload_n (pc' := 41)  hc rfl rfl rfl ?_
        refine g_iload (pc' := 43)  hc rfl rfl rfl ?_
        refine g_iconst (pc' := 44) (v := (1 : Int32)) hc rfl zki_1 rfl ?_
        refine zjn (G := (fun (j12 : Int32) => pm_ev C_X12_reckons (d + 1) (pm_call M cost zext d) cost (false, false) 108 0 0 Q 67 [some (.ref 75), some (.int a1), some (.int x1), some (.int (x2 + (1 : Int32))), some (.int (((I 80)) x2.toNatClampNeg))] [.int j12, .int x1, .ref 94] 0 0 (zS p q I [(94, none, x4)] J []))) (zwp_bind h) ?_ (fun h => ?_)
        · rintro j12 h
          have hb := (zwp_bnd h).1
          replace h := (zwp_bnd h).2
          refine z_iastore (pc' := 68) (g := x4) (L' := [(94, none, (upd x4 x1.toNatClampNeg j12))]) hc rfl rfl sh_94 hb rfl rfl rfl rfl ?_
          refine g_iinc (pc' := 71) (ls1 := [some (.ref 75), some (.int a1), some (.int x1), some (.int ((x2 + (1 : Int32)) + (1 : Int32))), some (.int (((I 80)) x2.toNatClampNeg))]) hc rfl rfl zki_1 (zlt rfl) rfl rfl ?_
          refine g_iinc (pc' := 74) (ls1 := [some (.ref 75), some (.int a1), some (.int (x1 + (1 : Int32))), some (.int ((x2 + (1 : Int32)) + (1 : Int32))), some (.int (((I 80)) x2.toNatClampNeg))]) hc rfl rfl zki_1 (zlt rfl) rfl rfl ?_
          refine g_goto hc rfl ?_
          refine g_goto hc rfl ?_
          replace h := zwp_l h
          exact h (some (.int (((I 80)) x2.toNatClampNeg))) rfl
        refine g_icmp_ne (pc' := 47) hc rfl rfl (fun hx => ?_) (fun hx => ?_)
        · replace h := zwp_f h hx
          refine g_aload_n (pc' := 57)  hc rfl rfl rfl rfl ?_
          refine z_getR (pc' := 60)  hc rfl rfl rfl sh_75 rfl rfl ?_
          refine g_aload_n (pc' := 61)  hc rfl rfl rfl rfl ?_
          refine z_getR (pc' := 64)  hc rfl rfl rfl sh_75 rfl rfl ?_
          refine g_iload_n (pc' := 65)  hc rfl rfl rfl ?_
          have hb := (zwp_bnd h).1
          replace h := (zwp_bnd h).2
          refine z_iaload (pc' := 66) (v := (((I 80)) (x2 + (1 : Int32)).toNatClampNeg)) hc rfl rfl sh_80 hb rfl rfl ?_
          have hb := (zwp_bnd h).1
          replace h := (zwp_bnd h).2
          refine z_iaload (pc' := 67) (v := (((I 93)) (((I 80)) (x2 + (1 : Int32)).toNatClampNeg).toNatClampNeg)) hc rfl rfl sh_93 hb rfl rfl ?_
          replace h := zws h
          exact h
        · replace h := zwp_t h hx
          refine g_aload_n (pc' := 48)  hc rfl rfl rfl rfl ?_
          refine z_getR (pc' := 51)  hc rfl rfl rfl sh_75 rfl rfl ?_
          refine g_iload_n (pc' := 52)  hc rfl rfl rfl ?_
          have hb := (zwp_bnd h).1
          replace h := (zwp_bnd h).2
          refine z_iaload (pc' := 53) (v := (((I 80)) (x2 + (1 : Int32)).toNatClampNeg)) hc rfl rfl sh_80 hb rfl rfl ?_
          refine g_goto hc rfl ?_
          replace h := zws h
          exact h
set_option maxRecDepth 4000 in
theorem ok_X12_bounded {p q : Nat} {I : pI} {J : pJ} {a0 : Int32} {a1 : Int32} {a2 : Int32} {Q : pQ} {d : Nat} (hd : 1 ≤ d) (h : zwp (f_X12_bounded a0 a1 a2) (fun r => Q (.inl (some (.int r))) (zS p q I [] J []))) : pm_call M cost zext d 155 [.int a0, .int a1, .int a2] (pm_st 108 (shp p q) I J) Q := by
  obtain ⟨d, rfl⟩ := zd1 hd rfl
  have hc := pm_call_m (M := M) (cost := cost) zext_m d
  refine z_in (L := []) (K := []) (ls := [some (.int a0), some (.int a1), some (.int a2)]) zmt_155 zco_155 rfl rfl zid_n zid_n ?_
  delta f_X12_bounded at h
  refine g_iload_n (pc' := 1)  hc rfl rfl rfl ?_
  refine g_iload_n (pc' := 2)  hc rfl rfl rfl ?_
  refine g_icmp_ge (pc' := 5) hc rfl rfl (fun hx => ?_) (fun hx => ?_)
  · replace h := zwp_t h hx
    refine g_iload_n (pc' := 10)  hc rfl rfl rfl ?_
    refine g_iload_n (pc' := 11)  hc rfl rfl rfl ?_
    refine g_icmp_le (pc' := 14) hc rfl rfl (fun hx => ?_) (fun hx => ?_)
    · replace h := zwp_t h hx
      refine g_iload_n (pc' := 19)  hc rfl rfl rfl ?_
      replace h := zws h
      exact g_ireturn hc rfl rfl rfl (fun _ => ⟨rfl, rfl⟩) h
    · replace h := zwp_f h hx
      refine g_iload_n (pc' := 15)  hc rfl rfl rfl ?_
      refine g_goto hc rfl ?_
      replace h := zws h
      exact g_ireturn hc rfl rfl rfl (fun _ => ⟨rfl, rfl⟩) h
  · replace h := zwp_f h hx
    refine g_iload_n (pc' := 6)  hc rfl rfl rfl ?_
    refine g_goto hc rfl ?_
    replace h := zws h
    exact g_ireturn hc rfl rfl rfl (fun _ => ⟨rfl, rfl⟩) h
set_option maxRecDepth 4000 in
theorem ok_X12_hurtsBy_75 {p q : Nat} {I : pI} {J : pJ} {a1 : Int32} {a2 : Int32} {Q : pQ} {d : Nat} (hd : 4 ≤ d) (h : zwp (f_X12_hurtsBy a1 a2 (I 80) (I 75 3) (I 75 8) (I 79) (I 75 5) (I 94) (I 91) (I 93) (I 76) (I 77)) (fun w => match w with | (r, o0, o1) => Q (.inl (some (.int r))) (zS p q I [(93, none, o1), (94, none, o0)] J []))) : pm_call M cost zext d 205 [.ref 75, .int a1, .int a2] (pm_st 108 (shp p q) I J) Q := by
  obtain ⟨d, rfl⟩ := zd1 hd rfl
  have hc := pm_call_m (M := M) (cost := cost) zext_m d
  refine z_in (L := [(93, none, (I 93)), (94, none, (I 94))]) (K := []) (ls := [some (.ref 75), some (.int a1), some (.int a2)]) zmt_205 zco_205 rfl rfl (zid_a (zid_a zid_n)) zid_n ?_
  delta f_X12_hurtsBy at h
  refine g_aload_n (pc' := 1)  hc rfl rfl rfl rfl ?_
  refine z_getI (pc' := 4) (v := (I 75 8)) hc rfl rfl rfl sh_75 rfl rfl rfl ?_
  refine g_iconst (pc' := 5) (v := (-1 : Int32)) hc rfl zki_m1 rfl ?_
  refine g_icmp_ne (pc' := 8) hc rfl rfl (fun hx => ?_) (fun hx => ?_)
  · replace h := zwp_f h hx
    refine g_aload_n (pc' := 11)  hc rfl rfl rfl rfl ?_
    refine g_iload_n (pc' := 12)  hc rfl rfl rfl ?_
    refine g_iload_n (pc' := 13)  hc rfl rfl rfl ?_
    refine z_virt (as := [.int a1, .int a2]) (a := 75) (r := []) hc rfl rfl rfl rfl sh_75 rfl zco_204 rfl rfl rfl ?_
    refine ok_X12_tells_75 (zdp hd rfl) (zwp_mono (zwp_bind h) ?_)
    rintro o1 h
    refine z_po (pc' := 16) (st' := []) (v := none) (L' := [(93, none, o1), (94, none, (I 94))]) (K' := []) zco_204 rfl rfl rfl rfl rfl rfl rfl rfl ?_
    refine g_aload_n (pc' := 17)  hc rfl rfl rfl rfl ?_
    refine g_aload_n (pc' := 18)  hc rfl rfl rfl rfl ?_
    refine z_getI (pc' := 21) (v := (I 75 8)) hc rfl rfl rfl sh_75 rfl rfl rfl ?_
    refine z_virt (as := [.int (I 75 8)]) (a := 75) (r := []) hc rfl rfl rfl rfl sh_75 rfl zco_198 rfl rfl rfl ?_
    refine ok_X12_reckons_75 (zdp hd rfl) (zwp_mono (zwp_bind h) ?_)
    rintro ⟨r3, o2⟩ h
    refine z_po (pc' := 24) (st' := [.int r3]) (v := (some (.int r3))) (L' := [(93, none, o1), (94, none, o2)]) (K' := []) zco_198 rfl rfl rfl rfl rfl rfl rfl rfl ?_
    refine g_iconst (pc' := 25) (v := (0 : Int32)) hc rfl zki_0 rfl ?_
    refine g_bipush (pc' := 27) (v := (9 : Int32)) hc rfl zkb_9 rfl ?_
    refine z_stat (as := [.int r3, .int (0 : Int32), .int (9 : Int32)]) (r := []) hc rfl rfl rfl rfl zco_155 rfl rfl rfl ?_
    refine ok_X12_bounded (zdp hd rfl) (zwp_mono (zwp_bind h) ?_)
    rintro r4 h
    refine z_po (pc' := 30) (st' := [.int r4]) (v := (some (.int r4))) (L' := [(93, none, o1), (94, none, o2)]) (K' := []) zco_155 rfl rfl rfl rfl rfl rfl rfl rfl ?_
    replace h := zws h
    exact g_ireturn hc rfl rfl rfl (fun _ => ⟨rfl, rfl⟩) h
  · replace h := zwp_t h hx
    refine g_iconst (pc' := 9) (v := (1 : Int32)) hc rfl zki_1 rfl ?_
    replace h := zws h
    exact g_ireturn hc rfl rfl rfl (fun _ => ⟨rfl, rfl⟩) h
set_option maxRecDepth 4000 in
theorem ok_X12_lesser {p q : Nat} {I : pI} {J : pJ} {a0 : Int32} {a1 : Int32} {Q : pQ} {d : Nat} (hd : 1 ≤ d) (h : zwp (f_X12_lesser a0 a1) (fun r => Q (.inl (some (.int r))) (zS p q I [] J []))) : pm_call M cost zext d 156 [.int a0, .int a1] (pm_st 108 (shp p q) I J) Q := by
  obtain ⟨d, rfl⟩ := zd1 hd rfl
  have hc := pm_call_m (M := M) (cost := cost) zext_m d
  refine z_in (L := []) (K := []) (ls := [some (.int a0), some (.int a1)]) zmt_156 zco_156 rfl rfl zid_n zid_n ?_
  delta f_X12_lesser at h
  refine g_iload_n (pc' := 1)  hc rfl rfl rfl ?_
  refine g_iload_n (pc' := 2)  hc rfl rfl rfl ?_
  refine g_icmp_ge (pc' := 5) hc rfl rfl (fun hx => ?_) (fun hx => ?_)
  · replace h := zwp_t h hx
    refine g_iload_n (pc' := 10)  hc rfl rfl rfl ?_
    replace h := zws h
    exact g_ireturn hc rfl rfl rfl (fun _ => ⟨rfl, rfl⟩) h
  · replace h := zwp_f h hx
    refine g_iload_n (pc' := 6)  hc rfl rfl rfl ?_
    refine g_goto hc rfl ?_
    replace h := zws h
    exact g_ireturn hc rfl rfl rfl (fun _ => ⟨rfl, rfl⟩) h
set_option maxRecDepth 4000 in
theorem ok_X12_isGoing_75 {p q : Nat} {I : pI} {J : pJ} {a1 : Int32} {a2 : Int32} {Q : pQ} {d : Nat} (hd : 4 ≤ d) (h : zwp (f_X12_isGoing a1 a2 (I 80) (I 75 3) (I 75 7) (I 79) (I 75 5) (I 94) (I 91) (I 93) (I 76) (I 77)) (fun w => match w with | (r, o0, o1) => Q (.inl (some (.int r))) (zS p q I [(93, none, o1), (94, none, o0)] J []))) : pm_call M cost zext d 206 [.ref 75, .int a1, .int a2] (pm_st 108 (shp p q) I J) Q := by
  obtain ⟨d, rfl⟩ := zd1 hd rfl
  have hc := pm_call_m (M := M) (cost := cost) zext_m d
  refine z_in (L := [(93, none, (I 93)), (94, none, (I 94))]) (K := []) (ls := [some (.ref 75), some (.int a1), some (.int a2)]) zmt_206 zco_206 rfl rfl (zid_a (zid_a zid_n)) zid_n ?_
  delta f_X12_isGoing at h
  refine g_aload_n (pc' := 1)  hc rfl rfl rfl rfl ?_
  refine z_getI (pc' := 4) (v := (I 75 7)) hc rfl rfl rfl sh_75 rfl rfl rfl ?_
  refine g_iconst (pc' := 5) (v := (-1 : Int32)) hc rfl zki_m1 rfl ?_
  refine g_icmp_ne (pc' := 8) hc rfl rfl (fun hx => ?_) (fun hx => ?_)
  · replace h := zwp_f h hx
    refine g_aload_n (pc' := 31)  hc rfl rfl rfl rfl ?_
    refine g_iload_n (pc' := 32)  hc rfl rfl rfl ?_
    refine g_iload_n (pc' := 33)  hc rfl rfl rfl ?_
    refine z_virt (as := [.int a1, .int a2]) (a := 75) (r := []) hc rfl rfl rfl rfl sh_75 rfl zco_204 rfl rfl rfl ?_
    refine ok_X12_tells_75 (zdp hd rfl) (zwp_mono (zwp_bind h) ?_)
    rintro o1 h
    refine z_po (pc' := 36) (st' := []) (v := none) (L' := [(93, none, o1), (94, none, (I 94))]) (K' := []) zco_204 rfl rfl rfl rfl rfl rfl rfl rfl ?_
    refine g_aload_n (pc' := 37)  hc rfl rfl rfl rfl ?_
    refine g_aload_n (pc' := 38)  hc rfl rfl rfl rfl ?_
    refine z_getI (pc' := 41) (v := (I 75 7)) hc rfl rfl rfl sh_75 rfl rfl rfl ?_
    refine z_virt (as := [.int (I 75 7)]) (a := 75) (r := []) hc rfl rfl rfl rfl sh_75 rfl zco_198 rfl rfl rfl ?_
    refine ok_X12_reckons_75 (zdp hd rfl) (zwp_mono (zwp_bind h) ?_)
    rintro ⟨r3, o2⟩ h
    refine z_po (pc' := 44) (st' := [.int r3]) (v := (some (.int r3))) (L' := [(93, none, o1), (94, none, o2)]) (K' := []) zco_198 rfl rfl rfl rfl rfl rfl rfl rfl ?_
    refine g_if_le (pc' := 47) hc rfl rfl (fun hx => ?_) (fun hx => ?_)
    · replace h := zwp_t h hx
      refine g_iconst (pc' := 52) (v := (0 : Int32)) hc rfl zki_0 rfl ?_
      replace h := zws h
      exact g_ireturn hc rfl rfl rfl (fun _ => ⟨rfl, rfl⟩) h
    · replace h := zwp_f h hx
      refine g_iconst (pc' := 48) (v := (1 : Int32)) hc rfl zki_1 rfl ?_
      refine g_goto hc rfl ?_
      replace h := zws h
      exact g_ireturn hc rfl rfl rfl (fun _ => ⟨rfl, rfl⟩) h
  · replace h := zwp_t h hx
    refine g_aload_n (pc' := 9)  hc rfl rfl rfl rfl ?_
    refine z_getR (pc' := 12)  hc rfl rfl rfl sh_75 rfl rfl ?_
    refine g_iload_n (pc' := 13)  hc rfl rfl rfl ?_
    refine g_bipush (pc' := 15) (v := (9 : Int32)) hc rfl zkb_9 rfl ?_
    refine g_iadd (pc' := 16)  hc rfl rfl ?_
    refine g_iload_n (pc' := 17)  hc rfl rfl rfl ?_
    refine g_iadd (pc' := 18)  hc rfl rfl ?_
    have hb := (zwp_bnd h).1
    replace h := (zwp_bnd h).2
    refine z_iaload (pc' := 19) (v := (((I 91)) ((a1 + (9 : Int32)) + a2).toNatClampNeg)) hc rfl rfl sh_91 hb rfl rfl ?_
    refine g_bipush (pc' := 21) (v := (10 : Int32)) hc rfl zkb_10 rfl ?_
    refine g_icmp_ge (pc' := 24) hc rfl rfl (fun hx => ?_) (fun hx => ?_)
    · replace h := zwp_t h hx
      refine g_iconst (pc' := 29) (v := (0 : Int32)) hc rfl zki_0 rfl ?_
      replace h := zws h
      exact g_ireturn hc rfl rfl rfl (fun _ => ⟨rfl, rfl⟩) h
    · replace h := zwp_f h hx
      refine g_iconst (pc' := 25) (v := (1 : Int32)) hc rfl zki_1 rfl ?_
      refine g_goto hc rfl ?_
      replace h := zws h
      exact g_ireturn hc rfl rfl rfl (fun _ => ⟨rfl, rfl⟩) h
set_option maxRecDepth 4000 in
theorem ok_X12_figureGoes_75 {p q : Nat} {I : pI} {J : pJ} {a1 : Int32} {a2 : Int32} {Q : pQ} {d : Nat} (hd : 5 ≤ d) (h : zwp (f_X12_figureGoes a1 a2 (I 80) (I 75 6) (I 75 53) (I 75 3) (I 75 7) (I 75 8) (I 79) (I 75 5) (I 94) (I 91) (I 75 2) (I 93) (I 76) (I 77) (I 75 1)) (fun w => match w with | (o0, o1, o2) => Q (.inl none) (zS p q I [(91, none, o1), (93, none, o2), (94, none, o0)] J []))) : pm_call M cost zext d 208 [.ref 75, .int a1, .int a2] (pm_st 108 (shp p q) I J) Q := by
  obtain ⟨d, rfl⟩ := zd1 hd rfl
  have hc := pm_call_m (M := M) (cost := cost) zext_m d
  refine z_in (L := [(91, none, (I 91)), (93, none, (I 93)), (94, none, (I 94))]) (K := []) (ls := [some (.ref 75), some (.int a1), some (.int a2), none]) zmt_208 zco_208 rfl rfl (zid_a (zid_a (zid_a zid_n))) zid_n ?_
  delta f_X12_figureGoes at h
  refine g_aload_n (pc' := 1)  hc rfl rfl rfl rfl ?_
  refine z_getR (pc' := 4)  hc rfl rfl rfl sh_75 rfl rfl ?_
  refine g_iload_n (pc' := 5)  hc rfl rfl rfl ?_
  refine g_bipush (pc' := 7) (v := (17 : Int32)) hc rfl zkb_17 rfl ?_
  refine g_iadd (pc' := 8)  hc rfl rfl ?_
  refine g_iload_n (pc' := 9)  hc rfl rfl rfl ?_
  refine g_iadd (pc' := 10)  hc rfl rfl ?_
  have hb := (zwp_bnd h).1
  replace h := (zwp_bnd h).2
  refine z_iaload (pc' := 11) (v := (((I 91)) ((a1 + (17 : Int32)) + a2).toNatClampNeg)) hc rfl rfl sh_91 hb rfl rfl ?_
  refine g_if_le (pc' := 14) hc rfl rfl (fun hx => ?_) (fun hx => ?_)
  · replace h := zwp_t h hx
    refine g_aload_n (pc' := 58)  hc rfl rfl rfl rfl ?_
    refine g_iload_n (pc' := 59)  hc rfl rfl rfl ?_
    refine g_iload_n (pc' := 60)  hc rfl rfl rfl ?_
    refine z_virt (as := [.int a1, .int a2]) (a := 75) (r := []) hc rfl rfl rfl rfl sh_75 rfl zco_206 rfl rfl rfl ?_
    refine ok_X12_isGoing_75 (zdp hd rfl) (zwp_mono (zwp_bind h) ?_)
    rintro ⟨r3, o1, o2⟩ h
    refine z_po (pc' := 63) (st' := [.int r3]) (v := (some (.int r3))) (L' := [(91, none, (I 91)), (93, none, o2), (94, none, o1)]) (K' := []) zco_206 rfl rfl rfl rfl rfl rfl rfl rfl ?_
    refine g_if_ne (pc' := 66) hc rfl rfl (fun hx => ?_) (fun hx => ?_)
    · replace h := zwp_f h hx
      refine g_aload_n (pc' := 68)  hc rfl rfl rfl rfl ?_
      refine g_aload_n (pc' := 69)  hc rfl rfl rfl rfl ?_
      refine z_getR (pc' := 72)  hc rfl rfl rfl sh_75 rfl rfl ?_
      refine g_iload_n (pc' := 73)  hc rfl rfl rfl ?_
      refine g_iconst (pc' := 74) (v := (1 : Int32)) hc rfl zki_1 rfl ?_
      refine g_iadd (pc' := 75)  hc rfl rfl ?_
      refine g_iload_n (pc' := 76)  hc rfl rfl rfl ?_
      refine g_iadd (pc' := 77)  hc rfl rfl ?_
      have hb := (zwp_bnd h).1
      replace h := (zwp_bnd h).2
      refine z_iaload (pc' := 78) (v := (((I 91)) ((a1 + (1 : Int32)) + a2).toNatClampNeg)) hc rfl rfl sh_91 hb rfl rfl ?_
      refine g_aload_n (pc' := 79)  hc rfl rfl rfl rfl ?_
      refine g_iload_n (pc' := 80)  hc rfl rfl rfl ?_
      refine g_iload_n (pc' := 81)  hc rfl rfl rfl ?_
      refine z_virt (as := [.int a1, .int a2]) (a := 75) (r := [.int (((I 91)) ((a1 + (1 : Int32)) + a2).toNatClampNeg), .ref 75]) hc rfl rfl rfl rfl sh_75 rfl zco_203 rfl rfl rfl ?_
      refine ok_X12_stepOf_75 (zdp hd rfl) (zwp_mono (zwp_bind h) ?_)
      rintro r4 h
      refine z_po (pc' := 84) (st' := [.int r4, .int (((I 91)) ((a1 + (1 : Int32)) + a2).toNatClampNeg), .ref 75]) (v := (some (.int r4))) (L' := [(91, none, (I 91)), (93, none, o2), (94, none, o1)]) (K' := []) zco_203 rfl rfl rfl rfl rfl rfl rfl rfl ?_
      refine z_virt (as := [.int (((I 91)) ((a1 + (1 : Int32)) + a2).toNatClampNeg), .int r4]) (a := 75) (r := []) hc rfl rfl rfl rfl sh_75 rfl zco_207 rfl rfl rfl ?_
      refine ok_X12_beside_75 (zdp hd rfl) (zwp_mono (zwp_bind h) ?_)
      rintro r5 h
      refine z_po (pc' := 87) (st' := [.int r5]) (v := (some (.int r5))) (L' := [(91, none, (I 91)), (93, none, o2), (94, none, o1)]) (K' := []) zco_207 rfl rfl rfl rfl rfl rfl rfl rfl ?_
      refine g_istore_n (pc' := 88) (ls1 := [some (.ref 75), some (.int a1), some (.int a2), some (.int r5)]) hc rfl (zlt rfl) rfl rfl ?_
      refine g_iload_n (pc' := 89)  hc rfl rfl rfl ?_
      refine g_iconst (pc' := 90) (v := (-1 : Int32)) hc rfl zki_m1 rfl ?_
      refine g_icmp_eq (pc' := 93) hc rfl rfl (fun hx => ?_) (fun hx => ?_)
      · replace h := zwp_t h hx
        replace h := zws h
        exact g_return hc rfl rfl (fun _ => ⟨rfl, rfl⟩) h
      · replace h := zwp_f h hx
        refine g_aload_n (pc' := 94)  hc rfl rfl rfl rfl ?_
        refine z_getR (pc' := 97)  hc rfl rfl rfl sh_75 rfl rfl ?_
        refine g_iload_n (pc' := 98)  hc rfl rfl rfl ?_
        refine g_bipush (pc' := 100) (v := (33 : Int32)) hc rfl zkb_33 rfl ?_
        refine g_iadd (pc' := 101)  hc rfl rfl ?_
        refine g_iload_n (pc' := 102)  hc rfl rfl rfl ?_
        refine g_iadd (pc' := 103)  hc rfl rfl ?_
        have hb := (zwp_bnd h).1
        replace h := (zwp_bnd h).2
        refine z_iaload (pc' := 104) (v := (((I 91)) ((a1 + (33 : Int32)) + r5).toNatClampNeg)) hc rfl rfl sh_91 hb rfl rfl ?_
        refine g_if_ne (pc' := 107) hc rfl rfl (fun hx => ?_) (fun hx => ?_)
        · replace h := zwp_f h hx
          replace h := zws h
          exact g_return hc rfl rfl (fun _ => ⟨rfl, rfl⟩) h
        · replace h := zwp_t h hx
          refine g_aload_n (pc' := 108)  hc rfl rfl rfl rfl ?_
          refine z_getR (pc' := 111)  hc rfl rfl rfl sh_75 rfl rfl ?_
          refine g_iload_n (pc' := 112)  hc rfl rfl rfl ?_
          refine g_iconst (pc' := 113) (v := (1 : Int32)) hc rfl zki_1 rfl ?_
          refine g_iadd (pc' := 114)  hc rfl rfl ?_
          refine g_iload_n (pc' := 115)  hc rfl rfl rfl ?_
          refine g_iadd (pc' := 116)  hc rfl rfl ?_
          refine g_iload_n (pc' := 117)  hc rfl rfl rfl ?_
          have hb := (zwp_bnd h).1
          replace h := (zwp_bnd h).2
          refine z_iastore (pc' := 118) (g := (I 91)) (L' := [(91, none, (upd ((I 91)) ((a1 + (1 : Int32)) + a2).toNatClampNeg r5)), (93, none, o2), (94, none, o1)]) hc rfl rfl sh_91 hb rfl rfl rfl rfl ?_
          replace h := zws h
          exact g_return hc rfl rfl (fun _ => ⟨rfl, rfl⟩) h
    · replace h := zwp_t h hx
      replace h := zws h
      exact g_return hc rfl rfl (fun _ => ⟨rfl, rfl⟩) h
  · replace h := zwp_f h hx
    refine g_aload_n (pc' := 15)  hc rfl rfl rfl rfl ?_
    refine g_iload_n (pc' := 16)  hc rfl rfl rfl ?_
    refine z_virt (as := [.int a1]) (a := 75) (r := []) hc rfl rfl rfl rfl sh_75 rfl zco_200 rfl rfl rfl ?_
    refine ok_X12_isDull_75 (zdp hd rfl) (zwp_mono (zwp_bind h) ?_)
    rintro r6 h
    refine z_po (pc' := 19) (st' := [.int r6]) (v := (some (.int r6))) (L' := [(91, none, (I 91)), (93, none, (I 93)), (94, none, (I 94))]) (K' := []) zco_200 rfl rfl rfl rfl rfl rfl rfl rfl ?_
    refine g_if_ne (pc' := 22) hc rfl rfl (fun hx => ?_) (fun hx => ?_)
    · replace h := zwp_f h hx
      refine g_aload_n (pc' := 58)  hc rfl rfl rfl rfl ?_
      refine g_iload_n (pc' := 59)  hc rfl rfl rfl ?_
      refine g_iload_n (pc' := 60)  hc rfl rfl rfl ?_
      refine z_virt (as := [.int a1, .int a2]) (a := 75) (r := []) hc rfl rfl rfl rfl sh_75 rfl zco_206 rfl rfl rfl ?_
      refine ok_X12_isGoing_75 (zdp hd rfl) (zwp_mono (zwp_bind h) ?_)
      rintro ⟨r9, o7, o8⟩ h
      refine z_po (pc' := 63) (st' := [.int r9]) (v := (some (.int r9))) (L' := [(91, none, (I 91)), (93, none, o8), (94, none, o7)]) (K' := []) zco_206 rfl rfl rfl rfl rfl rfl rfl rfl ?_
      refine g_if_ne (pc' := 66) hc rfl rfl (fun hx => ?_) (fun hx => ?_)
      · replace h := zwp_f h hx
        refine g_aload_n (pc' := 68)  hc rfl rfl rfl rfl ?_
        refine g_aload_n (pc' := 69)  hc rfl rfl rfl rfl ?_
        refine z_getR (pc' := 72)  hc rfl rfl rfl sh_75 rfl rfl ?_
        refine g_iload_n (pc' := 73)  hc rfl rfl rfl ?_
        refine g_iconst (pc' := 74) (v := (1 : Int32)) hc rfl zki_1 rfl ?_
        refine g_iadd (pc' := 75)  hc rfl rfl ?_
        refine g_iload_n (pc' := 76)  hc rfl rfl rfl ?_
        refine g_iadd (pc' := 77)  hc rfl rfl ?_
        have hb := (zwp_bnd h).1
        replace h := (zwp_bnd h).2
        refine z_iaload (pc' := 78) (v := (((I 91)) ((a1 + (1 : Int32)) + a2).toNatClampNeg)) hc rfl rfl sh_91 hb rfl rfl ?_
        refine g_aload_n (pc' := 79)  hc rfl rfl rfl rfl ?_
        refine g_iload_n (pc' := 80)  hc rfl rfl rfl ?_
        refine g_iload_n (pc' := 81)  hc rfl rfl rfl ?_
        refine z_virt (as := [.int a1, .int a2]) (a := 75) (r := [.int (((I 91)) ((a1 + (1 : Int32)) + a2).toNatClampNeg), .ref 75]) hc rfl rfl rfl rfl sh_75 rfl zco_203 rfl rfl rfl ?_
        refine ok_X12_stepOf_75 (zdp hd rfl) (zwp_mono (zwp_bind h) ?_)
        rintro r10 h
        refine z_po (pc' := 84) (st' := [.int r10, .int (((I 91)) ((a1 + (1 : Int32)) + a2).toNatClampNeg), .ref 75]) (v := (some (.int r10))) (L' := [(91, none, (I 91)), (93, none, o8), (94, none, o7)]) (K' := []) zco_203 rfl rfl rfl rfl rfl rfl rfl rfl ?_
        refine z_virt (as := [.int (((I 91)) ((a1 + (1 : Int32)) + a2).toNatClampNeg), .int r10]) (a := 75) (r := []) hc rfl rfl rfl rfl sh_75 rfl zco_207 rfl rfl rfl ?_
        refine ok_X12_beside_75 (zdp hd rfl) (zwp_mono (zwp_bind h) ?_)
        rintro r11 h
        refine z_po (pc' := 87) (st' := [.int r11]) (v := (some (.int r11))) (L' := [(91, none, (I 91)), (93, none, o8), (94, none, o7)]) (K' := []) zco_207 rfl rfl rfl rfl rfl rfl rfl rfl ?_
        refine g_istore_n (pc' := 88) (ls1 := [some (.ref 75), some (.int a1), some (.int a2), some (.int r11)]) hc rfl (zlt rfl) rfl rfl ?_
        refine g_iload_n (pc' := 89)  hc rfl rfl rfl ?_
        refine g_iconst (pc' := 90) (v := (-1 : Int32)) hc rfl zki_m1 rfl ?_
        refine g_icmp_eq (pc' := 93) hc rfl rfl (fun hx => ?_) (fun hx => ?_)
        · replace h := zwp_t h hx
          replace h := zws h
          exact g_return hc rfl rfl (fun _ => ⟨rfl, rfl⟩) h
        · replace h := zwp_f h hx
          refine g_aload_n (pc' := 94)  hc rfl rfl rfl rfl ?_
          refine z_getR (pc' := 97)  hc rfl rfl rfl sh_75 rfl rfl ?_
          refine g_iload_n (pc' := 98)  hc rfl rfl rfl ?_
          refine g_bipush (pc' := 100) (v := (33 : Int32)) hc rfl zkb_33 rfl ?_
          refine g_iadd (pc' := 101)  hc rfl rfl ?_
          refine g_iload_n (pc' := 102)  hc rfl rfl rfl ?_
          refine g_iadd (pc' := 103)  hc rfl rfl ?_
          have hb := (zwp_bnd h).1
          replace h := (zwp_bnd h).2
          refine z_iaload (pc' := 104) (v := (((I 91)) ((a1 + (33 : Int32)) + r11).toNatClampNeg)) hc rfl rfl sh_91 hb rfl rfl ?_
          refine g_if_ne (pc' := 107) hc rfl rfl (fun hx => ?_) (fun hx => ?_)
          · replace h := zwp_f h hx
            replace h := zws h
            exact g_return hc rfl rfl (fun _ => ⟨rfl, rfl⟩) h
          · replace h := zwp_t h hx
            refine g_aload_n (pc' := 108)  hc rfl rfl rfl rfl ?_
            refine z_getR (pc' := 111)  hc rfl rfl rfl sh_75 rfl rfl ?_
            refine g_iload_n (pc' := 112)  hc rfl rfl rfl ?_
            refine g_iconst (pc' := 113) (v := (1 : Int32)) hc rfl zki_1 rfl ?_
            refine g_iadd (pc' := 114)  hc rfl rfl ?_
            refine g_iload_n (pc' := 115)  hc rfl rfl rfl ?_
            refine g_iadd (pc' := 116)  hc rfl rfl ?_
            refine g_iload_n (pc' := 117)  hc rfl rfl rfl ?_
            have hb := (zwp_bnd h).1
            replace h := (zwp_bnd h).2
            refine z_iastore (pc' := 118) (g := (I 91)) (L' := [(91, none, (upd ((I 91)) ((a1 + (1 : Int32)) + a2).toNatClampNeg r11)), (93, none, o8), (94, none, o7)]) hc rfl rfl sh_91 hb rfl rfl rfl rfl ?_
            replace h := zws h
            exact g_return hc rfl rfl (fun _ => ⟨rfl, rfl⟩) h
      · replace h := zwp_t h hx
        replace h := zws h
        exact g_return hc rfl rfl (fun _ => ⟨rfl, rfl⟩) h
    · replace h := zwp_t h hx
      refine g_aload_n (pc' := 23)  hc rfl rfl rfl rfl ?_
      refine z_getR (pc' := 26)  hc rfl rfl rfl sh_75 rfl rfl ?_
      refine g_iload_n (pc' := 27)  hc rfl rfl rfl ?_
      refine g_bipush (pc' := 29) (v := (9 : Int32)) hc rfl zkb_9 rfl ?_
      refine g_iadd (pc' := 30)  hc rfl rfl ?_
      refine g_iload_n (pc' := 31)  hc rfl rfl rfl ?_
      refine g_iadd (pc' := 32)  hc rfl rfl ?_
      refine g_bipush (pc' := 34) (v := (99 : Int32)) hc rfl zkb_99 rfl ?_
      refine g_aload_n (pc' := 35)  hc rfl rfl rfl rfl ?_
      refine z_getR (pc' := 38)  hc rfl rfl rfl sh_75 rfl rfl ?_
      refine g_iload_n (pc' := 39)  hc rfl rfl rfl ?_
      refine g_bipush (pc' := 41) (v := (9 : Int32)) hc rfl zkb_9 rfl ?_
      refine g_iadd (pc' := 42)  hc rfl rfl ?_
      refine g_iload_n (pc' := 43)  hc rfl rfl rfl ?_
      refine g_iadd (pc' := 44)  hc rfl rfl ?_
      have hb := (zwp_bnd h).1
      replace h := (zwp_bnd h).2
      refine z_iaload (pc' := 45) (v := (((I 91)) ((a1 + (9 : Int32)) + a2).toNatClampNeg)) hc rfl rfl sh_91 hb rfl rfl ?_
      refine g_aload_n (pc' := 46)  hc rfl rfl rfl rfl ?_
      refine g_iload_n (pc' := 47)  hc rfl rfl rfl ?_
      refine g_iload_n (pc' := 48)  hc rfl rfl rfl ?_
      refine z_virt (as := [.int a1, .int a2]) (a := 75) (r := [.int (((I 91)) ((a1 + (9 : Int32)) + a2).toNatClampNeg), .int (99 : Int32), .int ((a1 + (9 : Int32)) + a2), .ref 91]) hc rfl rfl rfl rfl sh_75 rfl zco_205 rfl rfl rfl ?_
      refine ok_X12_hurtsBy_75 (zdp hd rfl) (zwp_mono (zwp_bind h) ?_)
      rintro ⟨r14, o12, o13⟩ h
      refine z_po (pc' := 51) (st' := [.int r14, .int (((I 91)) ((a1 + (9 : Int32)) + a2).toNatClampNeg), .int (99 : Int32), .int ((a1 + (9 : Int32)) + a2), .ref 91]) (v := (some (.int r14))) (L' := [(91, none, (I 91)), (93, none, o13), (94, none, o12)]) (K' := []) zco_205 rfl rfl rfl rfl rfl rfl rfl rfl ?_
      refine g_iadd (pc' := 52)  hc rfl rfl ?_
      refine z_stat (as := [.int (99 : Int32), .int ((((I 91)) ((a1 + (9 : Int32)) + a2).toNatClampNeg) + r14)]) (r := [.int ((a1 + (9 : Int32)) + a2), .ref 91]) hc rfl rfl rfl rfl zco_156 rfl rfl rfl ?_
      refine ok_X12_lesser (zdp hd rfl) (zwp_mono (zwp_bind h) ?_)
      rintro r15 h
      refine z_po (pc' := 55) (st' := [.int r15, .int ((a1 + (9 : Int32)) + a2), .ref 91]) (v := (some (.int r15))) (L' := [(91, none, (I 91)), (93, none, o13), (94, none, o12)]) (K' := []) zco_156 rfl rfl rfl rfl rfl rfl rfl rfl ?_
      have hb := (zwp_bnd h).1
      replace h := (zwp_bnd h).2
      refine z_iastore (pc' := 56) (g := (I 91)) (L' := [(91, none, (upd ((I 91)) ((a1 + (9 : Int32)) + a2).toNatClampNeg r15)), (93, none, o13), (94, none, o12)]) hc rfl rfl sh_91 hb rfl rfl rfl rfl ?_
      replace h := zws h
      exact g_return hc rfl rfl (fun _ => ⟨rfl, rfl⟩) h
set_option maxRecDepth 4000 in
theorem ok_X12_hourGoes_75 {p q : Nat} {I : pI} {J : pJ} {a1 : Int32} {Q : pQ} {d : Nat} (hd : 6 ≤ d) (h : zwp (f_X12_hourGoes a1 (I 80) (I 75 6) (I 75 53) (I 75 3) (I 75 7) (I 75 8) (I 79) (I 75 5) (I 94) (I 91) (I 75 2) (I 93) (I 76) (I 77) (I 75 1)) (fun w => match w with | (o0, o1, o2) => Q (.inl none) (zS p q I [(91, none, o1), (93, none, o2), (94, none, o0)] J []))) : pm_call M cost zext d 209 [.ref 75, .int a1] (pm_st 108 (shp p q) I J) Q := by
  obtain ⟨d, rfl⟩ := zd1 hd rfl
  have hc := pm_call_m (M := M) (cost := cost) zext_m d
  refine z_in (L := [(91, none, (I 91)), (93, none, (I 93)), (94, none, (I 94))]) (K := []) (ls := [some (.ref 75), some (.int a1), none]) zmt_209 zco_209 rfl rfl (zid_a (zid_a (zid_a zid_n))) zid_n ?_
  delta f_X12_hourGoes at h
  refine g_iconst (pc' := 1) (v := (0 : Int32)) hc rfl zki_0 rfl ?_
  refine g_istore_n (pc' := 2) (ls1 := [some (.ref 75), some (.int a1), some (.int (0 : Int32))]) hc rfl (zlt rfl) rfl rfl ?_
  refine zjn (G := (fun (g : (Nat → Int32) × (Nat → Int32) × (Nat → Int32)) => match g with | (y6, y7, y8) => ∀ z5 : Option Value, znl z5 = true → pm_ev C_X12_hourGoes (d + 1) (pm_call M cost zext d) cost (false, false) 108 0 0 Q 22 [some (.ref 75), some (.int a1), z5] [] 0 0 (zS p q I [(91, none, y7), (93, none, y8), (94, none, y6)] J []))) (zwp_bind h) ?_ (fun h => ?_)
  · rintro ⟨y6, y7, y8⟩ h z5 hz5
    refine g_iconst (pc' := 23) (v := (0 : Int32)) hc rfl zki_0 rfl ?_
    refine g_istore_n (pc' := 24) (ls1 := [some (.ref 75), some (.int a1), some (.int (0 : Int32))]) hc rfl (zlt rfl) rfl rfl ?_
    refine zjn (G := (fun (y12 : (Nat → Int32)) => ∀ z11 : Option Value, znl z11 = true → pm_ev C_X12_hourGoes (d + 1) (pm_call M cost zext d) cost (false, false) 108 0 0 Q 71 [some (.ref 75), some (.int a1), z11] [] 0 0 (zS p q I [(91, none, y12), (93, none, y8), (94, none, y6)] J []))) (zwp_bind h) ?_ (fun h => ?_)
    · rintro y12 h z11 hz11
      refine g_aload_n (pc' := 72)  hc rfl rfl rfl rfl ?_
      refine z_getR (pc' := 75)  hc rfl rfl rfl sh_75 rfl rfl ?_
      refine g_iload_n (pc' := 76)  hc rfl rfl rfl ?_
      refine g_iconst (pc' := 77) (v := (0 : Int32)) hc rfl zki_0 rfl ?_
      refine g_iadd (pc' := 78)  hc rfl rfl ?_
      refine g_dup2 (pc' := 79)  hc rfl rfl rfl rfl ?_
      have hb := (zwp_bnd h).1
      replace h := (zwp_bnd h).2
      refine z_iaload (pc' := 80) (v := (y12 (a1 + (0 : Int32)).toNatClampNeg)) hc rfl rfl sh_91 hb rfl rfl ?_
      refine g_iconst (pc' := 81) (v := (1 : Int32)) hc rfl zki_1 rfl ?_
      refine g_iadd (pc' := 82)  hc rfl rfl ?_
      have hb := (zwp_bnd h).1
      replace h := (zwp_bnd h).2
      refine z_iastore (pc' := 83) (g := y12) (L' := [(91, none, (upd y12 (a1 + (0 : Int32)).toNatClampNeg ((y12 (a1 + (0 : Int32)).toNatClampNeg) + (1 : Int32)))), (93, none, y8), (94, none, y6)]) hc rfl rfl sh_91 hb rfl rfl rfl rfl ?_
      replace h := zws h
      exact g_return hc rfl rfl (fun _ => ⟨rfl, rfl⟩) h
    refine zitr_ev (G := (fun (g : Int32 × (Nat → Int32)) => match g with | (x9, x10) => pm_ev C_X12_hourGoes (d + 1) (pm_call M cost zext d) cost (false, false) 108 0 0 Q 24 [some (.ref 75), some (.int a1), some (.int x9)] [] 0 0 (zS p q I [(91, none, x10), (93, none, y8), (94, none, y6)] J []))) ?_ zFU ((0 : Int32), y7) h
    rintro ⟨x9, x10⟩ h
    refine g_iload_n (pc' := 25)  hc rfl rfl rfl ?_
    refine g_aload_n (pc' := 26)  hc rfl rfl rfl rfl ?_
    refine z_getI (pc' := 29) (v := (I 75 3)) hc rfl rfl rfl sh_75 rfl rfl rfl ?_
    refine g_icmp_ge (pc' := 32) hc rfl rfl (fun hx => ?_) (fun hx => ?_)
    · replace h := zwp_t h hx
      replace h := zwp_r h
      exact h (some (.int x9)) rfl
    · replace h := zwp_f h hx
      refine g_aload_n (pc' := 33)  hc rfl rfl rfl rfl ?_
      refine z_getR (pc' := 36)  hc rfl rfl rfl sh_75 rfl rfl ?_
      refine g_iload_n (pc' := 37)  hc rfl rfl rfl ?_
      refine g_bipush (pc' := 39) (v := (17 : Int32)) hc rfl zkb_17 rfl ?_
      refine g_iadd (pc' := 40)  hc rfl rfl ?_
      refine g_iload_n (pc' := 41)  hc rfl rfl rfl ?_
      refine g_iadd (pc' := 42)  hc rfl rfl ?_
      refine g_dup2 (pc' := 43)  hc rfl rfl rfl rfl ?_
      have hb := (zwp_bnd h).1
      replace h := (zwp_bnd h).2
      refine z_iaload (pc' := 44) (v := (x10 ((a1 + (17 : Int32)) + x9).toNatClampNeg)) hc rfl rfl sh_91 hb rfl rfl ?_
      refine g_aload_n (pc' := 45)  hc rfl rfl rfl rfl ?_
      refine z_getR (pc' := 48)  hc rfl rfl rfl sh_75 rfl rfl ?_
      refine g_iload_n (pc' := 49)  hc rfl rfl rfl ?_
      refine g_bipush (pc' := 51) (v := (17 : Int32)) hc rfl zkb_17 rfl ?_
      refine g_iadd (pc' := 52)  hc rfl rfl ?_
      refine g_iload_n (pc' := 53)  hc rfl rfl rfl ?_
      refine g_iadd (pc' := 54)  hc rfl rfl ?_
      have hb := (zwp_bnd h).1
      replace h := (zwp_bnd h).2
      refine z_iaload (pc' := 55) (v := (x10 ((a1 + (17 : Int32)) + x9).toNatClampNeg)) hc rfl rfl sh_91 hb rfl rfl ?_
      refine zjn (G := (fun (j13 : Int32) => pm_ev C_X12_hourGoes (d + 1) (pm_call M cost zext d) cost (false, false) 108 0 0 Q 63 [some (.ref 75), some (.int a1), some (.int x9)] [.int j13, .int (x10 ((a1 + (17 : Int32)) + x9).toNatClampNeg), .int ((a1 + (17 : Int32)) + x9), .ref 91] 0 0 (zS p q I [(91, none, x10), (93, none, y8), (94, none, y6)] J []))) (zwp_bind h) ?_ (fun h => ?_)
      · rintro j13 h
        refine g_isub (pc' := 64)  hc rfl rfl ?_
        have hb := (zwp_bnd h).1
        replace h := (zwp_bnd h).2
        refine z_iastore (pc' := 65) (g := x10) (L' := [(91, none, (upd x10 ((a1 + (17 : Int32)) + x9).toNatClampNeg ((x10 ((a1 + (17 : Int32)) + x9).toNatClampNeg) - j13))), (93, none, y8), (94, none, y6)]) hc rfl rfl sh_91 hb rfl rfl rfl rfl ?_
        refine g_iinc (pc' := 68) (ls1 := [some (.ref 75), some (.int a1), some (.int (x9 + (1 : Int32)))]) hc rfl rfl zki_1 (zlt rfl) rfl rfl ?_
        refine g_goto hc rfl ?_
        replace h := zwp_l h
        exact h
      refine g_if_le (pc' := 58) hc rfl rfl (fun hx => ?_) (fun hx => ?_)
      · replace h := zwp_t h hx
        refine g_iconst (pc' := 63) (v := (0 : Int32)) hc rfl zki_0 rfl ?_
        replace h := zws h
        exact h
      · replace h := zwp_f h hx
        refine g_iconst (pc' := 59) (v := (1 : Int32)) hc rfl zki_1 rfl ?_
        refine g_goto hc rfl ?_
        replace h := zws h
        exact h
  refine zitr_ev (G := (fun (g : Int32 × (Nat → Int32) × (Nat → Int32) × (Nat → Int32)) => match g with | (x1, x2, x3, x4) => pm_ev C_X12_hourGoes (d + 1) (pm_call M cost zext d) cost (false, false) 108 0 0 Q 2 [some (.ref 75), some (.int a1), some (.int x1)] [] 0 0 (zS p q I [(91, none, x3), (93, none, x4), (94, none, x2)] J []))) ?_ zFU ((0 : Int32), (I 94), (I 91), (I 93)) h
  rintro ⟨x1, x2, x3, x4⟩ h
  refine g_iload_n (pc' := 3)  hc rfl rfl rfl ?_
  refine g_aload_n (pc' := 4)  hc rfl rfl rfl rfl ?_
  refine z_getI (pc' := 7) (v := (I 75 3)) hc rfl rfl rfl sh_75 rfl rfl rfl ?_
  refine g_icmp_ge (pc' := 10) hc rfl rfl (fun hx => ?_) (fun hx => ?_)
  · replace h := zwp_t h hx
    replace h := zwp_r h
    exact h (some (.int x1)) rfl
  · replace h := zwp_f h hx
    refine g_aload_n (pc' := 11)  hc rfl rfl rfl rfl ?_
    refine g_iload_n (pc' := 12)  hc rfl rfl rfl ?_
    refine g_iload_n (pc' := 13)  hc rfl rfl rfl ?_
    refine z_virt (as := [.int a1, .int x1]) (a := 75) (r := []) hc rfl rfl rfl rfl sh_75 rfl zco_208 rfl rfl rfl ?_
    refine ok_X12_figureGoes_75 (zdp hd rfl) (zwp_mono (zwp_bind h) ?_)
    rintro ⟨o14, o15, o16⟩ h
    refine z_po (pc' := 16) (st' := []) (v := none) (L' := [(91, none, o15), (93, none, o16), (94, none, o14)]) (K' := []) zco_208 rfl rfl rfl rfl rfl rfl rfl rfl ?_
    refine g_iinc (pc' := 19) (ls1 := [some (.ref 75), some (.int a1), some (.int (x1 + (1 : Int32)))]) hc rfl rfl zki_1 (zlt rfl) rfl rfl ?_
    refine g_goto hc rfl ?_
    replace h := zwp_l h
    exact h
set_option maxRecDepth 4000 in
theorem ok_X12_hours_75 {p q : Nat} {I : pI} {J : pJ} {a1 : Int32} {Q : pQ} {d : Nat} (hd : 7 ≤ d) (h : zwp (f_X12_hours a1 (I 75 50) (I 80) (I 75 6) (I 75 53) (I 75 3) (I 75 7) (I 75 8) (I 92) (I 79) (I 75 5) (I 94) (I 82) (I 91) (I 75 2) (I 75 0) (I 93) (I 76) (I 77) (I 75 1)) (fun w => match w with | (r, o0, o1, o2, o3, o4, o5, o6) => Q (.inl (some (.int r))) (zS p q I [(75, some 0, fun _ => o5), (75, some 50, fun _ => o0), (82, none, o3), (91, none, o4), (92, none, o1), (93, none, o6), (94, none, o2)] J []))) : pm_call M cost zext d 223 [.ref 75, .int a1] (pm_st 108 (shp p q) I J) Q := by
  obtain ⟨d, rfl⟩ := zd1 hd rfl
  have hc := pm_call_m (M := M) (cost := cost) zext_m d
  refine z_in (L := [(75, some 0, fun _ => (I 75 0)), (75, some 50, fun _ => (I 75 50)), (82, none, (I 82)), (91, none, (I 91)), (92, none, (I 92)), (93, none, (I 93)), (94, none, (I 94))]) (K := []) (ls := [some (.ref 75), some (.int a1), none]) zmt_223 zco_223 rfl rfl (zid_s (zid_s (zid_a (zid_a (zid_a (zid_a (zid_a zid_n))))))) zid_n ?_
  delta f_X12_hours at h
  refine g_aload_n (pc' := 1)  hc rfl rfl rfl rfl ?_
  refine g_iconst (pc' := 2) (v := (0 : Int32)) hc rfl zki_0 rfl ?_
  refine z_putI (pc' := 5) (L' := [(75, some 0, fun _ => (0 : Int32)), (75, some 50, fun _ => (I 75 50)), (82, none, (I 82)), (91, none, (I 91)), (92, none, (I 92)), (93, none, (I 93)), (94, none, (I 94))]) hc rfl rfl rfl sh_75 rfl zft_12_0 rfl (fun h => Bool.noConfusion h) rfl rfl rfl ?_
  refine g_iload_n (pc' := 6)  hc rfl rfl rfl ?_
  refine g_iconst (pc' := 7) (v := (1 : Int32)) hc rfl zki_1 rfl ?_
  refine g_bipush (pc' := 9) (v := (20 : Int32)) hc rfl zkb_20 rfl ?_
  refine z_stat (as := [.int a1, .int (1 : Int32), .int (20 : Int32)]) (r := []) hc rfl rfl rfl rfl zco_154 rfl rfl rfl ?_
  refine ok_X12_within (zdp hd rfl) (zwp_mono (zwp_bind h) ?_)
  rintro r1 h
  refine z_po (pc' := 12) (st' := [.int r1]) (v := (some (.int r1))) (L' := [(75, some 0, fun _ => (0 : Int32)), (75, some 50, fun _ => (I 75 50)), (82, none, (I 82)), (91, none, (I 91)), (92, none, (I 92)), (93, none, (I 93)), (94, none, (I 94))]) (K' := []) zco_154 rfl rfl rfl rfl rfl rfl rfl rfl ?_
  refine g_if_eq (pc' := 15) hc rfl rfl (fun hx => ?_) (fun hx => ?_)
  · replace h := zwp_t h hx
    refine g_aload_n (pc' := 30)  hc rfl rfl rfl rfl ?_
    refine g_iconst (pc' := 31) (v := (1 : Int32)) hc rfl zki_1 rfl ?_
    refine z_virt (as := [.int (1 : Int32)]) (a := 75) (r := []) hc rfl rfl rfl rfl sh_75 rfl zco_194 rfl rfl rfl ?_
    refine ok_X12_refuses_75 (zdp hd rfl) (zwp_mono (zwp_bind h) ?_)
    rintro ⟨r3, o2⟩ h
    refine z_po (pc' := 34) (st' := [.int r3]) (v := (some (.int r3))) (L' := [(75, some 0, fun _ => (0 : Int32)), (75, some 50, fun _ => (I 75 50)), (82, none, o2), (91, none, (I 91)), (92, none, (I 92)), (93, none, (I 93)), (94, none, (I 94))]) (K' := []) zco_194 rfl rfl rfl rfl rfl rfl rfl rfl ?_
    replace h := zws h
    exact g_ireturn hc rfl rfl rfl (fun _ => ⟨rfl, rfl⟩) h
  · replace h := zwp_f h hx
    refine g_aload_n (pc' := 16)  hc rfl rfl rfl rfl ?_
    refine z_getR (pc' := 19)  hc rfl rfl rfl sh_75 rfl rfl ?_
    refine g_iconst (pc' := 20) (v := (0 : Int32)) hc rfl zki_0 rfl ?_
    refine z_iaload (pc' := 21) (v := (((I 91)) 0)) hc rfl rfl sh_91 (by decide) rfl rfl ?_
    refine g_iload_n (pc' := 22)  hc rfl rfl rfl ?_
    refine g_iadd (pc' := 23)  hc rfl rfl ?_
    refine g_sipush (pc' := 26) (v := (9999 : Int32)) hc rfl zks_9999 rfl ?_
    refine g_icmp_le (pc' := 29) hc rfl rfl (fun hx => ?_) (fun hx => ?_)
    · replace h := zwp_t h hx
      refine g_aload_n (pc' := 36)  hc rfl rfl rfl rfl ?_
      refine z_virt (as := []) (a := 75) (r := []) hc rfl rfl rfl rfl sh_75 rfl zco_193 rfl rfl rfl ?_
      refine ok_X12_keeps_75 (zdp hd rfl) (zwp_mono (zwp_bind h) ?_)
      rintro ⟨o4, o5⟩ h
      refine z_po (pc' := 39) (st' := []) (v := none) (L' := [(75, some 0, fun _ => (0 : Int32)), (75, some 50, fun _ => o4), (82, none, (I 82)), (91, none, (I 91)), (92, none, o5), (93, none, (I 93)), (94, none, (I 94))]) (K' := []) zco_193 rfl rfl rfl rfl rfl rfl rfl rfl ?_
      refine g_iconst (pc' := 40) (v := (0 : Int32)) hc rfl zki_0 rfl ?_
      refine g_istore_n (pc' := 41) (ls1 := [some (.ref 75), some (.int a1), some (.int (0 : Int32))]) hc rfl (zlt rfl) rfl rfl ?_
      refine zjn (G := (fun (g : (Nat → Int32) × (Nat → Int32) × (Nat → Int32)) => match g with | (y11, y12, y13) => ∀ z10 : Option Value, znl z10 = true → pm_ev C_X12_hours (d + 1) (pm_call M cost zext d) cost (false, false) 108 0 0 Q 57 [some (.ref 75), some (.int a1), z10] [] 0 0 (zS p q I [(75, some 0, fun _ => (0 : Int32)), (75, some 50, fun _ => o4), (82, none, (I 82)), (91, none, y12), (92, none, o5), (93, none, y13), (94, none, y11)] J []))) (zwp_bind h) ?_ (fun h => ?_)
      · rintro ⟨y11, y12, y13⟩ h z10 hz10
        refine g_aload_n (pc' := 58)  hc rfl rfl rfl rfl ?_
        refine z_getR (pc' := 61)  hc rfl rfl rfl sh_75 rfl rfl ?_
        refine g_iconst (pc' := 62) (v := (0 : Int32)) hc rfl zki_0 rfl ?_
        refine z_iaload (pc' := 63) (v := (y12 0)) hc rfl rfl sh_91 (by decide) rfl rfl ?_
        replace h := zws h
        exact g_ireturn hc rfl rfl rfl (fun _ => ⟨rfl, rfl⟩) h
      refine zitr_ev (G := (fun (g : Int32 × (Nat → Int32) × (Nat → Int32) × (Nat → Int32)) => match g with | (x6, x7, x8, x9) => pm_ev C_X12_hours (d + 1) (pm_call M cost zext d) cost (false, false) 108 0 0 Q 41 [some (.ref 75), some (.int a1), some (.int x6)] [] 0 0 (zS p q I [(75, some 0, fun _ => (0 : Int32)), (75, some 50, fun _ => o4), (82, none, (I 82)), (91, none, x8), (92, none, o5), (93, none, x9), (94, none, x7)] J []))) ?_ zFU ((0 : Int32), (I 94), (I 91), (I 93)) h
      rintro ⟨x6, x7, x8, x9⟩ h
      refine g_iload_n (pc' := 42)  hc rfl rfl rfl ?_
      refine g_iload_n (pc' := 43)  hc rfl rfl rfl ?_
      refine g_icmp_ge (pc' := 46) hc rfl rfl (fun hx => ?_) (fun hx => ?_)
      · replace h := zwp_t h hx
        replace h := zwp_r h
        exact h (some (.int x6)) rfl
      · replace h := zwp_f h hx
        refine g_aload_n (pc' := 47)  hc rfl rfl rfl rfl ?_
        refine g_iconst (pc' := 48) (v := (0 : Int32)) hc rfl zki_0 rfl ?_
        refine z_virt (as := [.int (0 : Int32)]) (a := 75) (r := []) hc rfl rfl rfl rfl sh_75 rfl zco_209 rfl rfl rfl ?_
        refine ok_X12_hourGoes_75 (zdp hd rfl) (zwp_mono (zwp_bind h) ?_)
        rintro ⟨o14, o15, o16⟩ h
        refine z_po (pc' := 51) (st' := []) (v := none) (L' := [(75, some 0, fun _ => (0 : Int32)), (75, some 50, fun _ => o4), (82, none, (I 82)), (91, none, o15), (92, none, o5), (93, none, o16), (94, none, o14)]) (K' := []) zco_209 rfl rfl rfl rfl rfl rfl rfl rfl ?_
        refine g_iinc (pc' := 54) (ls1 := [some (.ref 75), some (.int a1), some (.int (x6 + (1 : Int32)))]) hc rfl rfl zki_1 (zlt rfl) rfl rfl ?_
        refine g_goto hc rfl ?_
        replace h := zwp_l h
        exact h
    · replace h := zwp_f h hx
      refine g_aload_n (pc' := 30)  hc rfl rfl rfl rfl ?_
      refine g_iconst (pc' := 31) (v := (1 : Int32)) hc rfl zki_1 rfl ?_
      refine z_virt (as := [.int (1 : Int32)]) (a := 75) (r := []) hc rfl rfl rfl rfl sh_75 rfl zco_194 rfl rfl rfl ?_
      refine ok_X12_refuses_75 (zdp hd rfl) (zwp_mono (zwp_bind h) ?_)
      rintro ⟨r18, o17⟩ h
      refine z_po (pc' := 34) (st' := [.int r18]) (v := (some (.int r18))) (L' := [(75, some 0, fun _ => (0 : Int32)), (75, some 50, fun _ => (I 75 50)), (82, none, o17), (91, none, (I 91)), (92, none, (I 92)), (93, none, (I 93)), (94, none, (I 94))]) (K' := []) zco_194 rfl rfl rfl rfl rfl rfl rfl rfl ?_
      replace h := zws h
      exact g_ireturn hc rfl rfl rfl (fun _ => ⟨rfl, rfl⟩) h
set_option maxRecDepth 4000 in
theorem ok_X12_stop_75 {p q : Nat} {I : pI} {J : pJ} {a1 : Int32} {a2 : Int32} {Q : pQ} {d : Nat} (hd : 3 ≤ d) (h : zwp (f_X12_stop a1 a2 (I 75 50) (I 75 6) (I 75 53) (I 75 3) (I 92) (I 79) (I 75 5) (I 82) (I 91) (I 75 0)) (fun w => match w with | (r, o0, o1, o2, o3, o4) => Q (.inl (some (.int r))) (zS p q I [(75, some 0, fun _ => o4), (75, some 50, fun _ => o0), (82, none, o2), (91, none, o3), (92, none, o1)] J []))) : pm_call M cost zext d 224 [.ref 75, .int a1, .int a2] (pm_st 108 (shp p q) I J) Q := by
  obtain ⟨d, rfl⟩ := zd1 hd rfl
  have hc := pm_call_m (M := M) (cost := cost) zext_m d
  refine z_in (L := [(75, some 0, fun _ => (I 75 0)), (75, some 50, fun _ => (I 75 50)), (82, none, (I 82)), (91, none, (I 91)), (92, none, (I 92))]) (K := []) (ls := [some (.ref 75), some (.int a1), some (.int a2)]) zmt_224 zco_224 rfl rfl (zid_s (zid_s (zid_a (zid_a (zid_a zid_n))))) zid_n ?_
  delta f_X12_stop at h
  refine g_aload_n (pc' := 1)  hc rfl rfl rfl rfl ?_
  refine g_iconst (pc' := 2) (v := (0 : Int32)) hc rfl zki_0 rfl ?_
  refine z_putI (pc' := 5) (L' := [(75, some 0, fun _ => (0 : Int32)), (75, some 50, fun _ => (I 75 50)), (82, none, (I 82)), (91, none, (I 91)), (92, none, (I 92))]) hc rfl rfl rfl sh_75 rfl zft_12_0 rfl (fun h => Bool.noConfusion h) rfl rfl rfl ?_
  refine g_aload_n (pc' := 6)  hc rfl rfl rfl rfl ?_
  refine g_iload_n (pc' := 7)  hc rfl rfl rfl ?_
  refine z_virt (as := [.int a1]) (a := 75) (r := []) hc rfl rfl rfl rfl sh_75 rfl zco_216 rfl rfl rfl ?_
  refine ok_X12_isFigure_75 (zdp hd rfl) (zwp_mono (zwp_bind h) ?_)
  rintro ⟨r2, o1⟩ h
  refine z_po (pc' := 10) (st' := [.int r2]) (v := (some (.int r2))) (L' := [(75, some 0, fun _ => o1), (75, some 50, fun _ => (I 75 50)), (82, none, (I 82)), (91, none, (I 91)), (92, none, (I 92))]) (K' := []) zco_216 rfl rfl rfl rfl rfl rfl rfl rfl ?_
  refine g_if_ne (pc' := 13) hc rfl rfl (fun hx => ?_) (fun hx => ?_)
  · replace h := zwp_f h hx
    refine g_aload_n (pc' := 16)  hc rfl rfl rfl rfl ?_
    refine g_iconst (pc' := 17) (v := (0 : Int32)) hc rfl zki_0 rfl ?_
    refine z_virt (as := [.int (0 : Int32)]) (a := 75) (r := []) hc rfl rfl rfl rfl sh_75 rfl zco_200 rfl rfl rfl ?_
    refine ok_X12_isDull_75 (zdp hd rfl) (zwp_mono (zwp_bind h) ?_)
    rintro r3 h
    refine z_po (pc' := 20) (st' := [.int r3]) (v := (some (.int r3))) (L' := [(75, some 0, fun _ => o1), (75, some 50, fun _ => (I 75 50)), (82, none, (I 82)), (91, none, (I 91)), (92, none, (I 92))]) (K' := []) zco_200 rfl rfl rfl rfl rfl rfl rfl rfl ?_
    refine g_if_ne (pc' := 23) hc rfl rfl (fun hx => ?_) (fun hx => ?_)
    · replace h := zwp_f h hx
      refine g_aload_n (pc' := 34)  hc rfl rfl rfl rfl ?_
      refine g_iconst (pc' := 35) (v := (1 : Int32)) hc rfl zki_1 rfl ?_
      refine z_virt (as := [.int (1 : Int32)]) (a := 75) (r := []) hc rfl rfl rfl rfl sh_75 rfl zco_194 rfl rfl rfl ?_
      refine ok_X12_refuses_75 (zdp hd rfl) (zwp_mono (zwp_bind h) ?_)
      rintro ⟨r5, o4⟩ h
      refine z_po (pc' := 38) (st' := [.int r5]) (v := (some (.int r5))) (L' := [(75, some 0, fun _ => o1), (75, some 50, fun _ => (I 75 50)), (82, none, o4), (91, none, (I 91)), (92, none, (I 92))]) (K' := []) zco_194 rfl rfl rfl rfl rfl rfl rfl rfl ?_
      replace h := zws h
      exact g_ireturn hc rfl rfl rfl (fun _ => ⟨rfl, rfl⟩) h
    · replace h := zwp_t h hx
      refine g_iload_n (pc' := 24)  hc rfl rfl rfl ?_
      refine g_iconst (pc' := 25) (v := (1 : Int32)) hc rfl zki_1 rfl ?_
      refine g_bipush (pc' := 27) (v := (9 : Int32)) hc rfl zkb_9 rfl ?_
      refine z_stat (as := [.int a2, .int (1 : Int32), .int (9 : Int32)]) (r := []) hc rfl rfl rfl rfl zco_154 rfl rfl rfl ?_
      refine ok_X12_within (zdp hd rfl) (zwp_mono (zwp_bind h) ?_)
      rintro r6 h
      refine z_po (pc' := 30) (st' := [.int r6]) (v := (some (.int r6))) (L' := [(75, some 0, fun _ => o1), (75, some 50, fun _ => (I 75 50)), (82, none, (I 82)), (91, none, (I 91)), (92, none, (I 92))]) (K' := []) zco_154 rfl rfl rfl rfl rfl rfl rfl rfl ?_
      refine g_if_ne (pc' := 33) hc rfl rfl (fun hx => ?_) (fun hx => ?_)
      · replace h := zwp_f h hx
        refine g_aload_n (pc' := 40)  hc rfl rfl rfl rfl ?_
        refine z_virt (as := []) (a := 75) (r := []) hc rfl rfl rfl rfl sh_75 rfl zco_193 rfl rfl rfl ?_
        refine ok_X12_keeps_75 (zdp hd rfl) (zwp_mono (zwp_bind h) ?_)
        rintro ⟨o7, o8⟩ h
        refine z_po (pc' := 43) (st' := []) (v := none) (L' := [(75, some 0, fun _ => o1), (75, some 50, fun _ => o7), (82, none, (I 82)), (91, none, (I 91)), (92, none, o8)]) (K' := []) zco_193 rfl rfl rfl rfl rfl rfl rfl rfl ?_
        refine g_aload_n (pc' := 44)  hc rfl rfl rfl rfl ?_
        refine z_getR (pc' := 47)  hc rfl rfl rfl sh_75 rfl rfl ?_
        refine g_bipush (pc' := 49) (v := (17 : Int32)) hc rfl zkb_17 rfl ?_
        refine g_iload_n (pc' := 50)  hc rfl rfl rfl ?_
        refine g_iadd (pc' := 51)  hc rfl rfl ?_
        refine g_iload_n (pc' := 52)  hc rfl rfl rfl ?_
        have hb := (zwp_bnd h).1
        replace h := (zwp_bnd h).2
        refine z_iastore (pc' := 53) (g := (I 91)) (L' := [(75, some 0, fun _ => o1), (75, some 50, fun _ => o7), (82, none, (I 82)), (91, none, (upd ((I 91)) ((17 : Int32) + a1).toNatClampNeg a2)), (92, none, o8)]) hc rfl rfl sh_91 hb rfl rfl rfl rfl ?_
        refine g_aload_n (pc' := 54)  hc rfl rfl rfl rfl ?_
        refine z_getR (pc' := 57)  hc rfl rfl rfl sh_75 rfl rfl ?_
        refine g_bipush (pc' := 59) (v := (69 : Int32)) hc rfl zkb_69 rfl ?_
        refine g_sipush (pc' := 62) (v := (9999 : Int32)) hc rfl zks_9999 rfl ?_
        refine g_aload_n (pc' := 63)  hc rfl rfl rfl rfl ?_
        refine z_getR (pc' := 66)  hc rfl rfl rfl sh_75 rfl rfl ?_
        refine g_bipush (pc' := 68) (v := (69 : Int32)) hc rfl zkb_69 rfl ?_
        refine z_iaload (pc' := 69) (v := ((upd ((I 91)) ((17 : Int32) + a1).toNatClampNeg a2) 69)) hc rfl rfl sh_91 (by decide) rfl rfl ?_
        refine g_iconst (pc' := 70) (v := (1 : Int32)) hc rfl zki_1 rfl ?_
        refine g_iadd (pc' := 71)  hc rfl rfl ?_
        refine z_stat (as := [.int (9999 : Int32), .int (((upd ((I 91)) ((17 : Int32) + a1).toNatClampNeg a2) 69) + (1 : Int32))]) (r := [.int (69 : Int32), .ref 91]) hc rfl rfl rfl rfl zco_156 rfl rfl rfl ?_
        refine ok_X12_lesser (zdp hd rfl) (zwp_mono (zwp_bind h) ?_)
        rintro r9 h
        refine z_po (pc' := 74) (st' := [.int r9, .int (69 : Int32), .ref 91]) (v := (some (.int r9))) (L' := [(75, some 0, fun _ => o1), (75, some 50, fun _ => o7), (82, none, (I 82)), (91, none, (upd ((I 91)) ((17 : Int32) + a1).toNatClampNeg a2)), (92, none, o8)]) (K' := []) zco_156 rfl rfl rfl rfl rfl rfl rfl rfl ?_
        refine z_iastore (pc' := 75) (g := (upd ((I 91)) ((17 : Int32) + a1).toNatClampNeg a2)) (L' := [(75, some 0, fun _ => o1), (75, some 50, fun _ => o7), (82, none, (I 82)), (91, none, (upd (upd ((I 91)) ((17 : Int32) + a1).toNatClampNeg a2) 69 r9)), (92, none, o8)]) hc rfl rfl sh_91 (by decide) rfl rfl rfl rfl ?_
        refine g_aload_n (pc' := 76)  hc rfl rfl rfl rfl ?_
        refine z_getR (pc' := 79)  hc rfl rfl rfl sh_75 rfl rfl ?_
        refine g_bipush (pc' := 81) (v := (69 : Int32)) hc rfl zkb_69 rfl ?_
        refine z_iaload (pc' := 82) (v := ((upd (upd ((I 91)) ((17 : Int32) + a1).toNatClampNeg a2) 69 r9) 69)) hc rfl rfl sh_91 (by decide) rfl rfl ?_
        replace h := zws h
        exact g_ireturn hc rfl rfl rfl (fun _ => ⟨rfl, rfl⟩) h
      · replace h := zwp_t h hx
        refine g_aload_n (pc' := 34)  hc rfl rfl rfl rfl ?_
        refine g_iconst (pc' := 35) (v := (1 : Int32)) hc rfl zki_1 rfl ?_
        refine z_virt (as := [.int (1 : Int32)]) (a := 75) (r := []) hc rfl rfl rfl rfl sh_75 rfl zco_194 rfl rfl rfl ?_
        refine ok_X12_refuses_75 (zdp hd rfl) (zwp_mono (zwp_bind h) ?_)
        rintro ⟨r11, o10⟩ h
        refine z_po (pc' := 38) (st' := [.int r11]) (v := (some (.int r11))) (L' := [(75, some 0, fun _ => o1), (75, some 50, fun _ => (I 75 50)), (82, none, o10), (91, none, (I 91)), (92, none, (I 92))]) (K' := []) zco_194 rfl rfl rfl rfl rfl rfl rfl rfl ?_
        replace h := zws h
        exact g_ireturn hc rfl rfl rfl (fun _ => ⟨rfl, rfl⟩) h
  · replace h := zwp_t h hx
    refine g_iconst (pc' := 14) (v := (0 : Int32)) hc rfl zki_0 rfl ?_
    replace h := zws h
    exact g_ireturn hc rfl rfl rfl (fun _ => ⟨rfl, rfl⟩) h
set_option maxRecDepth 4000 in
theorem ok_X12_lift_75 {p q : Nat} {I : pI} {J : pJ} {a1 : Int32} {a2 : Int32} {Q : pQ} {d : Nat} (hd : 3 ≤ d) (h : zwp (f_X12_lift a1 a2 (I 75 50) (I 75 6) (I 75 53) (I 75 3) (I 92) (I 79) (I 75 5) (I 82) (I 91) (I 75 2) (I 75 0) (I 75 1)) (fun w => match w with | (r, o0, o1, o2, o3, o4) => Q (.inl (some (.int r))) (zS p q I [(75, some 0, fun _ => o4), (75, some 50, fun _ => o0), (82, none, o2), (91, none, o3), (92, none, o1)] J []))) : pm_call M cost zext d 225 [.ref 75, .int a1, .int a2] (pm_st 108 (shp p q) I J) Q := by
  obtain ⟨d, rfl⟩ := zd1 hd rfl
  have hc := pm_call_m (M := M) (cost := cost) zext_m d
  refine z_in (L := [(75, some 0, fun _ => (I 75 0)), (75, some 50, fun _ => (I 75 50)), (82, none, (I 82)), (91, none, (I 91)), (92, none, (I 92))]) (K := []) (ls := [some (.ref 75), some (.int a1), some (.int a2), none]) zmt_225 zco_225 rfl rfl (zid_s (zid_s (zid_a (zid_a (zid_a zid_n))))) zid_n ?_
  delta f_X12_lift at h
  refine g_aload_n (pc' := 1)  hc rfl rfl rfl rfl ?_
  refine g_iconst (pc' := 2) (v := (0 : Int32)) hc rfl zki_0 rfl ?_
  refine z_putI (pc' := 5) (L' := [(75, some 0, fun _ => (0 : Int32)), (75, some 50, fun _ => (I 75 50)), (82, none, (I 82)), (91, none, (I 91)), (92, none, (I 92))]) hc rfl rfl rfl sh_75 rfl zft_12_0 rfl (fun h => Bool.noConfusion h) rfl rfl rfl ?_
  refine g_aload_n (pc' := 6)  hc rfl rfl rfl rfl ?_
  refine g_iload_n (pc' := 7)  hc rfl rfl rfl ?_
  refine z_virt (as := [.int a1]) (a := 75) (r := []) hc rfl rfl rfl rfl sh_75 rfl zco_216 rfl rfl rfl ?_
  refine ok_X12_isFigure_75 (zdp hd rfl) (zwp_mono (zwp_bind h) ?_)
  rintro ⟨r2, o1⟩ h
  refine z_po (pc' := 10) (st' := [.int r2]) (v := (some (.int r2))) (L' := [(75, some 0, fun _ => o1), (75, some 50, fun _ => (I 75 50)), (82, none, (I 82)), (91, none, (I 91)), (92, none, (I 92))]) (K' := []) zco_216 rfl rfl rfl rfl rfl rfl rfl rfl ?_
  refine g_if_eq (pc' := 13) hc rfl rfl (fun hx => ?_) (fun hx => ?_)
  · replace h := zwp_t h hx
    refine g_iconst (pc' := 22) (v := (0 : Int32)) hc rfl zki_0 rfl ?_
    replace h := zws h
    exact g_ireturn hc rfl rfl rfl (fun _ => ⟨rfl, rfl⟩) h
  · replace h := zwp_f h hx
    refine g_aload_n (pc' := 14)  hc rfl rfl rfl rfl ?_
    refine g_iload_n (pc' := 15)  hc rfl rfl rfl ?_
    refine z_virt (as := [.int a2]) (a := 75) (r := []) hc rfl rfl rfl rfl sh_75 rfl zco_217 rfl rfl rfl ?_
    refine ok_X12_isCell_75 (zdp hd rfl) (zwp_mono (zwp_bind h) ?_)
    rintro ⟨r4, o3⟩ h
    refine z_po (pc' := 18) (st' := [.int r4]) (v := (some (.int r4))) (L' := [(75, some 0, fun _ => o3), (75, some 50, fun _ => (I 75 50)), (82, none, (I 82)), (91, none, (I 91)), (92, none, (I 92))]) (K' := []) zco_217 rfl rfl rfl rfl rfl rfl rfl rfl ?_
    refine g_if_ne (pc' := 21) hc rfl rfl (fun hx => ?_) (fun hx => ?_)
    · replace h := zwp_f h hx
      refine g_aload_n (pc' := 24)  hc rfl rfl rfl rfl ?_
      refine z_getR (pc' := 27)  hc rfl rfl rfl sh_75 rfl rfl ?_
      refine g_iconst (pc' := 28) (v := (1 : Int32)) hc rfl zki_1 rfl ?_
      refine g_iload_n (pc' := 29)  hc rfl rfl rfl ?_
      refine g_iadd (pc' := 30)  hc rfl rfl ?_
      have hb := (zwp_bnd h).1
      replace h := (zwp_bnd h).2
      refine z_iaload (pc' := 31) (v := (((I 91)) ((1 : Int32) + a1).toNatClampNeg)) hc rfl rfl sh_91 hb rfl rfl ?_
      refine g_istore_n (pc' := 32) (ls1 := [some (.ref 75), some (.int a1), some (.int a2), some (.int (((I 91)) ((1 : Int32) + a1).toNatClampNeg))]) hc rfl (zlt rfl) rfl rfl ?_
      refine g_aload_n (pc' := 33)  hc rfl rfl rfl rfl ?_
      refine g_iconst (pc' := 34) (v := (0 : Int32)) hc rfl zki_0 rfl ?_
      refine z_virt (as := [.int (0 : Int32)]) (a := 75) (r := []) hc rfl rfl rfl rfl sh_75 rfl zco_200 rfl rfl rfl ?_
      refine ok_X12_isDull_75 (zdp hd rfl) (zwp_mono (zwp_bind h) ?_)
      rintro r5 h
      refine z_po (pc' := 37) (st' := [.int r5]) (v := (some (.int r5))) (L' := [(75, some 0, fun _ => o3), (75, some 50, fun _ => (I 75 50)), (82, none, (I 82)), (91, none, (I 91)), (92, none, (I 92))]) (K' := []) zco_200 rfl rfl rfl rfl rfl rfl rfl rfl ?_
      refine g_if_ne (pc' := 40) hc rfl rfl (fun hx => ?_) (fun hx => ?_)
      · replace h := zwp_f h hx
        refine g_aload_n (pc' := 59)  hc rfl rfl rfl rfl ?_
        refine g_iconst (pc' := 60) (v := (1 : Int32)) hc rfl zki_1 rfl ?_
        refine z_virt (as := [.int (1 : Int32)]) (a := 75) (r := []) hc rfl rfl rfl rfl sh_75 rfl zco_194 rfl rfl rfl ?_
        refine ok_X12_refuses_75 (zdp hd rfl) (zwp_mono (zwp_bind h) ?_)
        rintro ⟨r7, o6⟩ h
        refine z_po (pc' := 63) (st' := [.int r7]) (v := (some (.int r7))) (L' := [(75, some 0, fun _ => o3), (75, some 50, fun _ => (I 75 50)), (82, none, o6), (91, none, (I 91)), (92, none, (I 92))]) (K' := []) zco_194 rfl rfl rfl rfl rfl rfl rfl rfl ?_
        replace h := zws h
        exact g_ireturn hc rfl rfl rfl (fun _ => ⟨rfl, rfl⟩) h
      · replace h := zwp_t h hx
        refine g_iload_n (pc' := 41)  hc rfl rfl rfl ?_
        refine g_iload_n (pc' := 42)  hc rfl rfl rfl ?_
        refine g_icmp_eq (pc' := 45) hc rfl rfl (fun hx => ?_) (fun hx => ?_)
        · replace h := zwp_t h hx
          refine g_aload_n (pc' := 59)  hc rfl rfl rfl rfl ?_
          refine g_iconst (pc' := 60) (v := (1 : Int32)) hc rfl zki_1 rfl ?_
          refine z_virt (as := [.int (1 : Int32)]) (a := 75) (r := []) hc rfl rfl rfl rfl sh_75 rfl zco_194 rfl rfl rfl ?_
          refine ok_X12_refuses_75 (zdp hd rfl) (zwp_mono (zwp_bind h) ?_)
          rintro ⟨r9, o8⟩ h
          refine z_po (pc' := 63) (st' := [.int r9]) (v := (some (.int r9))) (L' := [(75, some 0, fun _ => o3), (75, some 50, fun _ => (I 75 50)), (82, none, o8), (91, none, (I 91)), (92, none, (I 92))]) (K' := []) zco_194 rfl rfl rfl rfl rfl rfl rfl rfl ?_
          replace h := zws h
          exact g_ireturn hc rfl rfl rfl (fun _ => ⟨rfl, rfl⟩) h
        · replace h := zwp_f h hx
          refine g_aload_n (pc' := 46)  hc rfl rfl rfl rfl ?_
          refine z_getR (pc' := 49)  hc rfl rfl rfl sh_75 rfl rfl ?_
          refine g_bipush (pc' := 51) (v := (33 : Int32)) hc rfl zkb_33 rfl ?_
          refine g_iload_n (pc' := 52)  hc rfl rfl rfl ?_
          refine g_iadd (pc' := 53)  hc rfl rfl ?_
          have hb := (zwp_bnd h).1
          replace h := (zwp_bnd h).2
          refine z_iaload (pc' := 54) (v := (((I 91)) ((33 : Int32) + a2).toNatClampNeg)) hc rfl rfl sh_91 hb rfl rfl ?_
          refine g_iconst (pc' := 55) (v := (1 : Int32)) hc rfl zki_1 rfl ?_
          refine g_icmp_ne (pc' := 58) hc rfl rfl (fun hx => ?_) (fun hx => ?_)
          · replace h := zwp_f h hx
            refine g_aload_n (pc' := 65)  hc rfl rfl rfl rfl ?_
            refine z_virt (as := []) (a := 75) (r := []) hc rfl rfl rfl rfl sh_75 rfl zco_193 rfl rfl rfl ?_
            refine ok_X12_keeps_75 (zdp hd rfl) (zwp_mono (zwp_bind h) ?_)
            rintro ⟨o10, o11⟩ h
            refine z_po (pc' := 68) (st' := []) (v := none) (L' := [(75, some 0, fun _ => o3), (75, some 50, fun _ => o10), (82, none, (I 82)), (91, none, (I 91)), (92, none, o11)]) (K' := []) zco_193 rfl rfl rfl rfl rfl rfl rfl rfl ?_
            refine g_aload_n (pc' := 69)  hc rfl rfl rfl rfl ?_
            refine z_getR (pc' := 72)  hc rfl rfl rfl sh_75 rfl rfl ?_
            refine g_iconst (pc' := 73) (v := (1 : Int32)) hc rfl zki_1 rfl ?_
            refine g_iload_n (pc' := 74)  hc rfl rfl rfl ?_
            refine g_iadd (pc' := 75)  hc rfl rfl ?_
            refine g_iload_n (pc' := 76)  hc rfl rfl rfl ?_
            have hb := (zwp_bnd h).1
            replace h := (zwp_bnd h).2
            refine z_iastore (pc' := 77) (g := (I 91)) (L' := [(75, some 0, fun _ => o3), (75, some 50, fun _ => o10), (82, none, (I 82)), (91, none, (upd ((I 91)) ((1 : Int32) + a1).toNatClampNeg a2)), (92, none, o11)]) hc rfl rfl sh_91 hb rfl rfl rfl rfl ?_
            refine g_aload_n (pc' := 78)  hc rfl rfl rfl rfl ?_
            refine z_getR (pc' := 81)  hc rfl rfl rfl sh_75 rfl rfl ?_
            refine g_bipush (pc' := 83) (v := (17 : Int32)) hc rfl zkb_17 rfl ?_
            refine g_iload_n (pc' := 84)  hc rfl rfl rfl ?_
            refine g_iadd (pc' := 85)  hc rfl rfl ?_
            refine g_iconst (pc' := 86) (v := (0 : Int32)) hc rfl zki_0 rfl ?_
            have hb := (zwp_bnd h).1
            replace h := (zwp_bnd h).2
            refine z_iastore (pc' := 87) (g := (upd ((I 91)) ((1 : Int32) + a1).toNatClampNeg a2)) (L' := [(75, some 0, fun _ => o3), (75, some 50, fun _ => o10), (82, none, (I 82)), (91, none, (upd (upd ((I 91)) ((1 : Int32) + a1).toNatClampNeg a2) ((17 : Int32) + a1).toNatClampNeg (0 : Int32))), (92, none, o11)]) hc rfl rfl sh_91 hb rfl rfl rfl rfl ?_
            refine g_aload_n (pc' := 88)  hc rfl rfl rfl rfl ?_
            refine z_getR (pc' := 91)  hc rfl rfl rfl sh_75 rfl rfl ?_
            refine g_bipush (pc' := 93) (v := (69 : Int32)) hc rfl zkb_69 rfl ?_
            refine g_sipush (pc' := 96) (v := (9999 : Int32)) hc rfl zks_9999 rfl ?_
            refine g_aload_n (pc' := 97)  hc rfl rfl rfl rfl ?_
            refine z_getR (pc' := 100)  hc rfl rfl rfl sh_75 rfl rfl ?_
            refine g_bipush (pc' := 102) (v := (69 : Int32)) hc rfl zkb_69 rfl ?_
            refine z_iaload (pc' := 103) (v := ((upd (upd ((I 91)) ((1 : Int32) + a1).toNatClampNeg a2) ((17 : Int32) + a1).toNatClampNeg (0 : Int32)) 69)) hc rfl rfl sh_91 (by decide) rfl rfl ?_
            refine g_iconst (pc' := 104) (v := (3 : Int32)) hc rfl zki_3 rfl ?_
            refine g_iadd (pc' := 105)  hc rfl rfl ?_
            refine z_stat (as := [.int (9999 : Int32), .int (((upd (upd ((I 91)) ((1 : Int32) + a1).toNatClampNeg a2) ((17 : Int32) + a1).toNatClampNeg (0 : Int32)) 69) + (3 : Int32))]) (r := [.int (69 : Int32), .ref 91]) hc rfl rfl rfl rfl zco_156 rfl rfl rfl ?_
            refine ok_X12_lesser (zdp hd rfl) (zwp_mono (zwp_bind h) ?_)
            rintro r12 h
            refine z_po (pc' := 108) (st' := [.int r12, .int (69 : Int32), .ref 91]) (v := (some (.int r12))) (L' := [(75, some 0, fun _ => o3), (75, some 50, fun _ => o10), (82, none, (I 82)), (91, none, (upd (upd ((I 91)) ((1 : Int32) + a1).toNatClampNeg a2) ((17 : Int32) + a1).toNatClampNeg (0 : Int32))), (92, none, o11)]) (K' := []) zco_156 rfl rfl rfl rfl rfl rfl rfl rfl ?_
            refine z_iastore (pc' := 109) (g := (upd (upd ((I 91)) ((1 : Int32) + a1).toNatClampNeg a2) ((17 : Int32) + a1).toNatClampNeg (0 : Int32))) (L' := [(75, some 0, fun _ => o3), (75, some 50, fun _ => o10), (82, none, (I 82)), (91, none, (upd (upd (upd ((I 91)) ((1 : Int32) + a1).toNatClampNeg a2) ((17 : Int32) + a1).toNatClampNeg (0 : Int32)) 69 r12)), (92, none, o11)]) hc rfl rfl sh_91 (by decide) rfl rfl rfl rfl ?_
            refine g_iload_n (pc' := 110)  hc rfl rfl rfl ?_
            replace h := zws h
            exact g_ireturn hc rfl rfl rfl (fun _ => ⟨rfl, rfl⟩) h
          · replace h := zwp_t h hx
            refine g_aload_n (pc' := 59)  hc rfl rfl rfl rfl ?_
            refine g_iconst (pc' := 60) (v := (1 : Int32)) hc rfl zki_1 rfl ?_
            refine z_virt (as := [.int (1 : Int32)]) (a := 75) (r := []) hc rfl rfl rfl rfl sh_75 rfl zco_194 rfl rfl rfl ?_
            refine ok_X12_refuses_75 (zdp hd rfl) (zwp_mono (zwp_bind h) ?_)
            rintro ⟨r14, o13⟩ h
            refine z_po (pc' := 63) (st' := [.int r14]) (v := (some (.int r14))) (L' := [(75, some 0, fun _ => o3), (75, some 50, fun _ => (I 75 50)), (82, none, o13), (91, none, (I 91)), (92, none, (I 92))]) (K' := []) zco_194 rfl rfl rfl rfl rfl rfl rfl rfl ?_
            replace h := zws h
            exact g_ireturn hc rfl rfl rfl (fun _ => ⟨rfl, rfl⟩) h
    · replace h := zwp_t h hx
      refine g_iconst (pc' := 22) (v := (0 : Int32)) hc rfl zki_0 rfl ?_
      replace h := zws h
      exact g_ireturn hc rfl rfl rfl (fun _ => ⟨rfl, rfl⟩) h
set_option maxRecDepth 4000 in
theorem ok_X12_brush_75 {p q : Nat} {I : pI} {J : pJ} {a1 : Int32} {Q : pQ} {d : Nat} (hd : 3 ≤ d) (h : zwp (f_X12_brush a1 (I 75 50) (I 75 3) (I 92) (I 82) (I 91) (I 75 0)) (fun w => match w with | (r, o0, o1, o2, o3, o4) => Q (.inl (some (.int r))) (zS p q I [(75, some 0, fun _ => o4), (75, some 50, fun _ => o0), (82, none, o2), (91, none, o3), (92, none, o1)] J []))) : pm_call M cost zext d 226 [.ref 75, .int a1] (pm_st 108 (shp p q) I J) Q := by
  obtain ⟨d, rfl⟩ := zd1 hd rfl
  have hc := pm_call_m (M := M) (cost := cost) zext_m d
  refine z_in (L := [(75, some 0, fun _ => (I 75 0)), (75, some 50, fun _ => (I 75 50)), (82, none, (I 82)), (91, none, (I 91)), (92, none, (I 92))]) (K := []) (ls := [some (.ref 75), some (.int a1), none]) zmt_226 zco_226 rfl rfl (zid_s (zid_s (zid_a (zid_a (zid_a zid_n))))) zid_n ?_
  delta f_X12_brush at h
  refine g_aload_n (pc' := 1)  hc rfl rfl rfl rfl ?_
  refine g_iconst (pc' := 2) (v := (0 : Int32)) hc rfl zki_0 rfl ?_
  refine z_putI (pc' := 5) (L' := [(75, some 0, fun _ => (0 : Int32)), (75, some 50, fun _ => (I 75 50)), (82, none, (I 82)), (91, none, (I 91)), (92, none, (I 92))]) hc rfl rfl rfl sh_75 rfl zft_12_0 rfl (fun h => Bool.noConfusion h) rfl rfl rfl ?_
  refine g_aload_n (pc' := 6)  hc rfl rfl rfl rfl ?_
  refine g_iload_n (pc' := 7)  hc rfl rfl rfl ?_
  refine z_virt (as := [.int a1]) (a := 75) (r := []) hc rfl rfl rfl rfl sh_75 rfl zco_216 rfl rfl rfl ?_
  refine ok_X12_isFigure_75 (zdp hd rfl) (zwp_mono (zwp_bind h) ?_)
  rintro ⟨r2, o1⟩ h
  refine z_po (pc' := 10) (st' := [.int r2]) (v := (some (.int r2))) (L' := [(75, some 0, fun _ => o1), (75, some 50, fun _ => (I 75 50)), (82, none, (I 82)), (91, none, (I 91)), (92, none, (I 92))]) (K' := []) zco_216 rfl rfl rfl rfl rfl rfl rfl rfl ?_
  refine g_if_ne (pc' := 13) hc rfl rfl (fun hx => ?_) (fun hx => ?_)
  · replace h := zwp_f h hx
    refine g_aload_n (pc' := 16)  hc rfl rfl rfl rfl ?_
    refine z_getR (pc' := 19)  hc rfl rfl rfl sh_75 rfl rfl ?_
    refine g_bipush (pc' := 21) (v := (9 : Int32)) hc rfl zkb_9 rfl ?_
    refine g_iload_n (pc' := 22)  hc rfl rfl rfl ?_
    refine g_iadd (pc' := 23)  hc rfl rfl ?_
    have hb := (zwp_bnd h).1
    replace h := (zwp_bnd h).2
    refine z_iaload (pc' := 24) (v := (((I 91)) ((9 : Int32) + a1).toNatClampNeg)) hc rfl rfl sh_91 hb rfl rfl ?_
    refine g_istore_n (pc' := 25) (ls1 := [some (.ref 75), some (.int a1), some (.int (((I 91)) ((9 : Int32) + a1).toNatClampNeg))]) hc rfl (zlt rfl) rfl rfl ?_
    refine g_iload_n (pc' := 26)  hc rfl rfl rfl ?_
    refine g_if_ne (pc' := 29) hc rfl rfl (fun hx => ?_) (fun hx => ?_)
    · replace h := zwp_f h hx
      refine g_aload_n (pc' := 36)  hc rfl rfl rfl rfl ?_
      refine z_virt (as := []) (a := 75) (r := []) hc rfl rfl rfl rfl sh_75 rfl zco_193 rfl rfl rfl ?_
      refine ok_X12_keeps_75 (zdp hd rfl) (zwp_mono (zwp_bind h) ?_)
      rintro ⟨o3, o4⟩ h
      refine z_po (pc' := 39) (st' := []) (v := none) (L' := [(75, some 0, fun _ => o1), (75, some 50, fun _ => o3), (82, none, (I 82)), (91, none, (I 91)), (92, none, o4)]) (K' := []) zco_193 rfl rfl rfl rfl rfl rfl rfl rfl ?_
      refine g_aload_n (pc' := 40)  hc rfl rfl rfl rfl ?_
      refine z_getR (pc' := 43)  hc rfl rfl rfl sh_75 rfl rfl ?_
      refine g_bipush (pc' := 45) (v := (9 : Int32)) hc rfl zkb_9 rfl ?_
      refine g_iload_n (pc' := 46)  hc rfl rfl rfl ?_
      refine g_iadd (pc' := 47)  hc rfl rfl ?_
      refine g_iconst (pc' := 48) (v := (0 : Int32)) hc rfl zki_0 rfl ?_
      have hb := (zwp_bnd h).1
      replace h := (zwp_bnd h).2
      refine z_iastore (pc' := 49) (g := (I 91)) (L' := [(75, some 0, fun _ => o1), (75, some 50, fun _ => o3), (82, none, (I 82)), (91, none, (upd ((I 91)) ((9 : Int32) + a1).toNatClampNeg (0 : Int32))), (92, none, o4)]) hc rfl rfl sh_91 hb rfl rfl rfl rfl ?_
      refine g_iload_n (pc' := 50)  hc rfl rfl rfl ?_
      replace h := zws h
      exact g_ireturn hc rfl rfl rfl (fun _ => ⟨rfl, rfl⟩) h
    · replace h := zwp_t h hx
      refine g_aload_n (pc' := 30)  hc rfl rfl rfl rfl ?_
      refine g_iconst (pc' := 31) (v := (1 : Int32)) hc rfl zki_1 rfl ?_
      refine z_virt (as := [.int (1 : Int32)]) (a := 75) (r := []) hc rfl rfl rfl rfl sh_75 rfl zco_194 rfl rfl rfl ?_
      refine ok_X12_refuses_75 (zdp hd rfl) (zwp_mono (zwp_bind h) ?_)
      rintro ⟨r6, o5⟩ h
      refine z_po (pc' := 34) (st' := [.int r6]) (v := (some (.int r6))) (L' := [(75, some 0, fun _ => o1), (75, some 50, fun _ => (I 75 50)), (82, none, o5), (91, none, (I 91)), (92, none, (I 92))]) (K' := []) zco_194 rfl rfl rfl rfl rfl rfl rfl rfl ?_
      replace h := zws h
      exact g_ireturn hc rfl rfl rfl (fun _ => ⟨rfl, rfl⟩) h
  · replace h := zwp_t h hx
    refine g_iconst (pc' := 14) (v := (0 : Int32)) hc rfl zki_0 rfl ?_
    replace h := zws h
    exact g_ireturn hc rfl rfl rfl (fun _ => ⟨rfl, rfl⟩) h
set_option maxRecDepth 4000 in
theorem ok_X12_wall_75 {p q : Nat} {I : pI} {J : pJ} {a1 : Int32} {a2 : Int32} {Q : pQ} {d : Nat} (hd : 3 ≤ d) (h : zwp (f_X12_wall a1 a2 (I 75 50) (I 75 3) (I 92) (I 82) (I 91) (I 78) (I 75 4) (I 75 2) (I 75 0) (I 75 1)) (fun w => match w with | (r, o0, o1, o2, o3, o4) => Q (.inl (some (.int r))) (zS p q I [(75, some 0, fun _ => o4), (75, some 50, fun _ => o0), (82, none, o2), (91, none, o3), (92, none, o1)] J []))) : pm_call M cost zext d 227 [.ref 75, .int a1, .int a2] (pm_st 108 (shp p q) I J) Q := by
  obtain ⟨d, rfl⟩ := zd1 hd rfl
  have hc := pm_call_m (M := M) (cost := cost) zext_m d
  refine z_in (L := [(75, some 0, fun _ => (I 75 0)), (75, some 50, fun _ => (I 75 50)), (82, none, (I 82)), (91, none, (I 91)), (92, none, (I 92))]) (K := []) (ls := [some (.ref 75), some (.int a1), some (.int a2), none, none]) zmt_227 zco_227 rfl rfl (zid_s (zid_s (zid_a (zid_a (zid_a zid_n))))) zid_n ?_
  delta f_X12_wall at h
  refine g_aload_n (pc' := 1)  hc rfl rfl rfl rfl ?_
  refine g_iconst (pc' := 2) (v := (0 : Int32)) hc rfl zki_0 rfl ?_
  refine z_putI (pc' := 5) (L' := [(75, some 0, fun _ => (0 : Int32)), (75, some 50, fun _ => (I 75 50)), (82, none, (I 82)), (91, none, (I 91)), (92, none, (I 92))]) hc rfl rfl rfl sh_75 rfl zft_12_0 rfl (fun h => Bool.noConfusion h) rfl rfl rfl ?_
  refine g_aload_n (pc' := 6)  hc rfl rfl rfl rfl ?_
  refine g_iload_n (pc' := 7)  hc rfl rfl rfl ?_
  refine z_virt (as := [.int a1]) (a := 75) (r := []) hc rfl rfl rfl rfl sh_75 rfl zco_217 rfl rfl rfl ?_
  refine ok_X12_isCell_75 (zdp hd rfl) (zwp_mono (zwp_bind h) ?_)
  rintro ⟨r2, o1⟩ h
  refine z_po (pc' := 10) (st' := [.int r2]) (v := (some (.int r2))) (L' := [(75, some 0, fun _ => o1), (75, some 50, fun _ => (I 75 50)), (82, none, (I 82)), (91, none, (I 91)), (92, none, (I 92))]) (K' := []) zco_217 rfl rfl rfl rfl rfl rfl rfl rfl ?_
  refine g_if_ne (pc' := 13) hc rfl rfl (fun hx => ?_) (fun hx => ?_)
  · replace h := zwp_f h hx
    refine g_aload_n (pc' := 16)  hc rfl rfl rfl rfl ?_
    refine g_iconst (pc' := 17) (v := (0 : Int32)) hc rfl zki_0 rfl ?_
    refine g_iload_n (pc' := 18)  hc rfl rfl rfl ?_
    refine z_virt (as := [.int (0 : Int32), .int a1]) (a := 75) (r := []) hc rfl rfl rfl rfl sh_75 rfl zco_201 rfl rfl rfl ?_
    refine ok_X12_atCell_75 (zdp hd rfl) (zwp_mono (zwp_bind h) ?_)
    rintro r3 h
    refine z_po (pc' := 21) (st' := [.int r3]) (v := (some (.int r3))) (L' := [(75, some 0, fun _ => o1), (75, some 50, fun _ => (I 75 50)), (82, none, (I 82)), (91, none, (I 91)), (92, none, (I 92))]) (K' := []) zco_201 rfl rfl rfl rfl rfl rfl rfl rfl ?_
    refine zjn (G := (fun (j4 : Int32) => pm_ev C_X12_wall (d + 1) (pm_call M cost zext d) cost (false, false) 108 0 0 Q 29 [some (.ref 75), some (.int a1), some (.int a2), none, none] [.int j4] 0 0 (zS p q I [(75, some 0, fun _ => o1), (75, some 50, fun _ => (I 75 50)), (82, none, (I 82)), (91, none, (I 91)), (92, none, (I 92))] J []))) (zwp_bind h) ?_ (fun h => ?_)
    · rintro j4 h
      refine g_istore_n (pc' := 30) (ls1 := [some (.ref 75), some (.int a1), some (.int a2), some (.int j4), none]) hc rfl (zlt rfl) rfl rfl ?_
      refine g_iconst (pc' := 31) (v := (0 : Int32)) hc rfl zki_0 rfl ?_
      refine g_istore (pc' := 33) (ls1 := [some (.ref 75), some (.int a1), some (.int a2), some (.int j4), some (.int (0 : Int32))]) hc rfl (zlt rfl) rfl rfl ?_
      refine zjn (G := (fun (y7 : Int32) => ∀ z8 : Option Value, znl z8 = true → pm_ev C_X12_wall (d + 1) (pm_call M cost zext d) cost (false, false) 108 0 0 Q 69 [some (.ref 75), some (.int a1), some (.int a2), some (.int y7), z8] [] 0 0 (zS p q I [(75, some 0, fun _ => o1), (75, some 50, fun _ => (I 75 50)), (82, none, (I 82)), (91, none, (I 91)), (92, none, (I 92))] J []))) (zwp_bind h) ?_ (fun h => ?_)
      · rintro y7 h z8 hz8
        refine g_aload_n (pc' := 70)  hc rfl rfl rfl rfl ?_
        refine z_getR (pc' := 73)  hc rfl rfl rfl sh_75 rfl rfl ?_
        refine g_bipush (pc' := 75) (v := (33 : Int32)) hc rfl zkb_33 rfl ?_
        refine g_iload_n (pc' := 76)  hc rfl rfl rfl ?_
        refine g_iadd (pc' := 77)  hc rfl rfl ?_
        have hb := (zwp_bnd h).1
        replace h := (zwp_bnd h).2
        refine z_iaload (pc' := 78) (v := (((I 91)) ((33 : Int32) + a1).toNatClampNeg)) hc rfl rfl sh_91 hb rfl rfl ?_
        refine g_iconst (pc' := 79) (v := (1 : Int32)) hc rfl zki_1 rfl ?_
        refine zjn (G := (fun (j9 : Int32) => pm_ev C_X12_wall (d + 1) (pm_call M cost zext d) cost (false, false) 108 0 0 Q 87 [some (.ref 75), some (.int a1), some (.int a2), some (.int y7), z8] [.int j9] 0 0 (zS p q I [(75, some 0, fun _ => o1), (75, some 50, fun _ => (I 75 50)), (82, none, (I 82)), (91, none, (I 91)), (92, none, (I 92))] J []))) (zwp_bind h) ?_ (fun h => ?_)
        · rintro j9 h
          refine g_iload_n (pc' := 88)  hc rfl rfl rfl ?_
          refine g_icmp_eq (pc' := 91) hc rfl rfl (fun hx => ?_) (fun hx => ?_)
          · replace h := zwp_t h hx
            refine g_aload_n (pc' := 96)  hc rfl rfl rfl rfl ?_
            refine g_iconst (pc' := 97) (v := (1 : Int32)) hc rfl zki_1 rfl ?_
            refine z_virt (as := [.int (1 : Int32)]) (a := 75) (r := []) hc rfl rfl rfl rfl sh_75 rfl zco_194 rfl rfl rfl ?_
            refine ok_X12_refuses_75 (zdp hd rfl) (zwp_mono (zwp_bind h) ?_)
            rintro ⟨r11, o10⟩ h
            refine z_po (pc' := 100) (st' := [.int r11]) (v := (some (.int r11))) (L' := [(75, some 0, fun _ => o1), (75, some 50, fun _ => (I 75 50)), (82, none, o10), (91, none, (I 91)), (92, none, (I 92))]) (K' := []) zco_194 rfl rfl rfl rfl rfl rfl rfl rfl ?_
            refine g_if_le (pc' := 103) hc rfl rfl (fun hx => ?_) (fun hx => ?_)
            · replace h := zwp_t h hx
              refine g_iconst (pc' := 108) (v := (0 : Int32)) hc rfl zki_0 rfl ?_
              replace h := zws h
              exact g_ireturn hc rfl rfl rfl (fun _ => ⟨rfl, rfl⟩) h
            · replace h := zwp_f h hx
              refine g_iconst (pc' := 104) (v := (1 : Int32)) hc rfl zki_1 rfl ?_
              refine g_goto hc rfl ?_
              replace h := zws h
              exact g_ireturn hc rfl rfl rfl (fun _ => ⟨rfl, rfl⟩) h
          · replace h := zwp_f h hx
            refine g_iload_n (pc' := 92)  hc rfl rfl rfl ?_
            refine g_if_eq (pc' := 95) hc rfl rfl (fun hx => ?_) (fun hx => ?_)
            · replace h := zwp_t h hx
              refine g_aload_n (pc' := 110)  hc rfl rfl rfl rfl ?_
              refine z_virt (as := []) (a := 75) (r := []) hc rfl rfl rfl rfl sh_75 rfl zco_193 rfl rfl rfl ?_
              refine ok_X12_keeps_75 (zdp hd rfl) (zwp_mono (zwp_bind h) ?_)
              rintro ⟨o12, o13⟩ h
              refine z_po (pc' := 113) (st' := []) (v := none) (L' := [(75, some 0, fun _ => o1), (75, some 50, fun _ => o12), (82, none, (I 82)), (91, none, (I 91)), (92, none, o13)]) (K' := []) zco_193 rfl rfl rfl rfl rfl rfl rfl rfl ?_
              refine g_aload_n (pc' := 114)  hc rfl rfl rfl rfl ?_
              refine z_getR (pc' := 117)  hc rfl rfl rfl sh_75 rfl rfl ?_
              refine g_bipush (pc' := 119) (v := (33 : Int32)) hc rfl zkb_33 rfl ?_
              refine g_iload_n (pc' := 120)  hc rfl rfl rfl ?_
              refine g_iadd (pc' := 121)  hc rfl rfl ?_
              refine g_iload_n (pc' := 122)  hc rfl rfl rfl ?_
              refine zjn (G := (fun (j14 : Int32) => pm_ev C_X12_wall (d + 1) (pm_call M cost zext d) cost (false, false) 108 0 0 Q 130 [some (.ref 75), some (.int a1), some (.int a2), some (.int y7), z8] [.int j14, .int ((33 : Int32) + a1), .ref 91] 0 0 (zS p q I [(75, some 0, fun _ => o1), (75, some 50, fun _ => o12), (82, none, (I 82)), (91, none, (I 91)), (92, none, o13)] J []))) (zwp_bind h) ?_ (fun h => ?_)
              · rintro j14 h
                have hb := (zwp_bnd h).1
                replace h := (zwp_bnd h).2
                refine z_iastore (pc' := 131) (g := (I 91)) (L' := [(75, some 0, fun _ => o1), (75, some 50, fun _ => o12), (82, none, (I 82)), (91, none, (upd ((I 91)) ((33 : Int32) + a1).toNatClampNeg j14)), (92, none, o13)]) hc rfl rfl sh_91 hb rfl rfl rfl rfl ?_
                refine g_iconst (pc' := 132) (v := (1 : Int32)) hc rfl zki_1 rfl ?_
                replace h := zws h
                exact g_ireturn hc rfl rfl rfl (fun _ => ⟨rfl, rfl⟩) h
              refine g_if_eq (pc' := 125) hc rfl rfl (fun hx => ?_) (fun hx => ?_)
              · replace h := zwp_t h hx
                refine g_iconst (pc' := 130) (v := (0 : Int32)) hc rfl zki_0 rfl ?_
                replace h := zws h
                exact h
              · replace h := zwp_f h hx
                refine g_iconst (pc' := 126) (v := (1 : Int32)) hc rfl zki_1 rfl ?_
                refine g_goto hc rfl ?_
                replace h := zws h
                exact h
            · replace h := zwp_f h hx
              refine g_aload_n (pc' := 96)  hc rfl rfl rfl rfl ?_
              refine g_iconst (pc' := 97) (v := (1 : Int32)) hc rfl zki_1 rfl ?_
              refine z_virt (as := [.int (1 : Int32)]) (a := 75) (r := []) hc rfl rfl rfl rfl sh_75 rfl zco_194 rfl rfl rfl ?_
              refine ok_X12_refuses_75 (zdp hd rfl) (zwp_mono (zwp_bind h) ?_)
              rintro ⟨r16, o15⟩ h
              refine z_po (pc' := 100) (st' := [.int r16]) (v := (some (.int r16))) (L' := [(75, some 0, fun _ => o1), (75, some 50, fun _ => (I 75 50)), (82, none, o15), (91, none, (I 91)), (92, none, (I 92))]) (K' := []) zco_194 rfl rfl rfl rfl rfl rfl rfl rfl ?_
              refine g_if_le (pc' := 103) hc rfl rfl (fun hx => ?_) (fun hx => ?_)
              · replace h := zwp_t h hx
                refine g_iconst (pc' := 108) (v := (0 : Int32)) hc rfl zki_0 rfl ?_
                replace h := zws h
                exact g_ireturn hc rfl rfl rfl (fun _ => ⟨rfl, rfl⟩) h
              · replace h := zwp_f h hx
                refine g_iconst (pc' := 104) (v := (1 : Int32)) hc rfl zki_1 rfl ?_
                refine g_goto hc rfl ?_
                replace h := zws h
                exact g_ireturn hc rfl rfl rfl (fun _ => ⟨rfl, rfl⟩) h
        refine g_icmp_ne (pc' := 82) hc rfl rfl (fun hx => ?_) (fun hx => ?_)
        · replace h := zwp_f h hx
          refine g_iconst (pc' := 87) (v := (0 : Int32)) hc rfl zki_0 rfl ?_
          replace h := zws h
          exact h
        · replace h := zwp_t h hx
          refine g_iconst (pc' := 83) (v := (1 : Int32)) hc rfl zki_1 rfl ?_
          refine g_goto hc rfl ?_
          replace h := zws h
          exact h
      refine zitr_ev (G := (fun (g : Int32 × Int32) => match g with | (x5, x6) => pm_ev C_X12_wall (d + 1) (pm_call M cost zext d) cost (false, false) 108 0 0 Q 33 [some (.ref 75), some (.int a1), some (.int a2), some (.int x5), some (.int x6)] [] 0 0 (zS p q I [(75, some 0, fun _ => o1), (75, some 50, fun _ => (I 75 50)), (82, none, (I 82)), (91, none, (I 91)), (92, none, (I 92))] J []))) ?_ zFU (j4, (0 : Int32)) h
      rintro ⟨x5, x6⟩ h
      refine g_iload (pc' := 35)  hc rfl rfl rfl ?_
      refine g_aload_n (pc' := 36)  hc rfl rfl rfl rfl ?_
      refine z_getI (pc' := 39) (v := (I 75 4)) hc rfl rfl rfl sh_75 rfl rfl rfl ?_
      refine g_icmp_ge (pc' := 42) hc rfl rfl (fun hx => ?_) (fun hx => ?_)
      · replace h := zwp_t h hx
        replace h := zwp_r h
        exact h (some (.int x6)) rfl
      · replace h := zwp_f h hx
        refine g_iload_n (pc' := 43)  hc rfl rfl rfl ?_
        refine zjn (G := (fun (j17 : Int32) => pm_ev C_X12_wall (d + 1) (pm_call M cost zext d) cost (false, false) 108 0 0 Q 62 [some (.ref 75), some (.int a1), some (.int a2), some (.int x5), some (.int x6)] [.int j17] 0 0 (zS p q I [(75, some 0, fun _ => o1), (75, some 50, fun _ => (I 75 50)), (82, none, (I 82)), (91, none, (I 91)), (92, none, (I 92))] J []))) (zwp_bind h) ?_ (fun h => ?_)
        · rintro j17 h
          refine g_istore_n (pc' := 63) (ls1 := [some (.ref 75), some (.int a1), some (.int a2), some (.int j17), some (.int x6)]) hc rfl (zlt rfl) rfl rfl ?_
          refine g_iinc (pc' := 66) (ls1 := [some (.ref 75), some (.int a1), some (.int a2), some (.int j17), some (.int (x6 + (1 : Int32)))]) hc rfl rfl zki_1 (zlt rfl) rfl rfl ?_
          refine g_goto hc rfl ?_
          replace h := zwp_l h
          exact h
        refine g_if_ne (pc' := 46) hc rfl rfl (fun hx => ?_) (fun hx => ?_)
        · replace h := zwp_f h hx
          refine g_iconst (pc' := 58) (v := (1 : Int32)) hc rfl zki_1 rfl ?_
          refine g_goto hc rfl ?_
          replace h := zws h
          exact h
        · replace h := zwp_t h hx
          refine g_aload_n (pc' := 47)  hc rfl rfl rfl rfl ?_
          refine z_getR (pc' := 50)  hc rfl rfl rfl sh_75 rfl rfl ?_
          refine g_iload (pc' := 52)  hc rfl rfl rfl ?_
          have hb := (zwp_bnd h).1
          replace h := (zwp_bnd h).2
          refine z_iaload (pc' := 53) (v := (((I 78)) x6.toNatClampNeg)) hc rfl rfl sh_78 hb rfl rfl ?_
          refine g_iload_n (pc' := 54)  hc rfl rfl rfl ?_
          refine g_icmp_ne (pc' := 57) hc rfl rfl (fun hx => ?_) (fun hx => ?_)
          · replace h := zwp_f h hx
            refine g_iconst (pc' := 62) (v := (0 : Int32)) hc rfl zki_0 rfl ?_
            replace h := zws h
            exact h
          · replace h := zwp_t h hx
            refine g_iconst (pc' := 58) (v := (1 : Int32)) hc rfl zki_1 rfl ?_
            refine g_goto hc rfl ?_
            replace h := zws h
            exact h
    refine g_if_eq (pc' := 24) hc rfl rfl (fun hx => ?_) (fun hx => ?_)
    · replace h := zwp_t h hx
      refine g_iconst (pc' := 29) (v := (0 : Int32)) hc rfl zki_0 rfl ?_
      replace h := zws h
      exact h
    · replace h := zwp_f h hx
      refine g_iconst (pc' := 25) (v := (1 : Int32)) hc rfl zki_1 rfl ?_
      refine g_goto hc rfl ?_
      replace h := zws h
      exact h
  · replace h := zwp_t h hx
    refine g_iconst (pc' := 14) (v := (0 : Int32)) hc rfl zki_0 rfl ?_
    replace h := zws h
    exact g_ireturn hc rfl rfl rfl (fun _ => ⟨rfl, rfl⟩) h
set_option maxRecDepth 4000 in
theorem ok_X12_isSoon_75 {p q : Nat} {I : pI} {J : pJ} {a1 : Int32} {a2 : Int32} {a3 : Int32} {Q : pQ} {d : Nat} (hd : 2 ≤ d) (h : zwp (f_X12_isSoon a1 a2 a3 (I 75 0)) (fun w => match w with | (r, o0) => Q (.inl (some (.int r))) (zS p q I [(75, some 0, fun _ => o0)] J []))) : pm_call M cost zext d 219 [.ref 75, .int a1, .int a2, .int a3] (pm_st 108 (shp p q) I J) Q := by
  obtain ⟨d, rfl⟩ := zd1 hd rfl
  have hc := pm_call_m (M := M) (cost := cost) zext_m d
  refine z_in (L := [(75, some 0, fun _ => (I 75 0))]) (K := []) (ls := [some (.ref 75), some (.int a1), some (.int a2), some (.int a3)]) zmt_219 zco_219 rfl rfl (zid_s zid_n) zid_n ?_
  delta f_X12_isSoon at h
  refine g_aload_n (pc' := 1)  hc rfl rfl rfl rfl ?_
  refine g_iload_n (pc' := 2)  hc rfl rfl rfl ?_
  refine g_iload_n (pc' := 3)  hc rfl rfl rfl ?_
  refine g_bipush (pc' := 5) (v := (100 : Int32)) hc rfl zkb_100 rfl ?_
  refine z_stat (as := [.int a1, .int a2, .int (100 : Int32)]) (r := [.ref 75]) hc rfl rfl rfl rfl zco_154 rfl rfl rfl ?_
  refine ok_X12_within (zdp hd rfl) (zwp_mono (zwp_bind h) ?_)
  rintro r1 h
  refine z_po (pc' := 8) (st' := [.int r1, .ref 75]) (v := (some (.int r1))) (L' := [(75, some 0, fun _ => (I 75 0))]) (K' := []) zco_154 rfl rfl rfl rfl rfl rfl rfl rfl ?_
  refine g_iload_n (pc' := 9)  hc rfl rfl rfl ?_
  refine z_virt (as := [.int r1, .int a3]) (a := 75) (r := []) hc rfl rfl rfl rfl sh_75 rfl zco_153 rfl rfl rfl ?_
  refine ok_X12_right_75 (zdp hd rfl) (zwp_mono (zwp_bind h) ?_)
  rintro ⟨r3, o2⟩ h
  refine z_po (pc' := 12) (st' := [.int r3]) (v := (some (.int r3))) (L' := [(75, some 0, fun _ => o2)]) (K' := []) zco_153 rfl rfl rfl rfl rfl rfl rfl rfl ?_
  have hz := (zwp_bol h).1
  replace h := (zwp_bol h).2
  replace h := zws h
  exact g_ireturn hc rfl rfl hz (fun _ => ⟨rfl, rfl⟩) h
set_option maxRecDepth 4000 in
theorem ok_X12_tries_75 {p q : Nat} {I : pI} {J : pJ} {Q : pQ} {d : Nat} (hd : 1 ≤ d) (h : zwp (f_X12_tries (I 91)) (fun o0 => Q (.inl none) (zS p q I [(91, none, o0)] J []))) : pm_call M cost zext d 196 [.ref 75] (pm_st 108 (shp p q) I J) Q := by
  obtain ⟨d, rfl⟩ := zd1 hd rfl
  have hc := pm_call_m (M := M) (cost := cost) zext_m d
  refine z_in (L := [(91, none, (I 91))]) (K := []) (ls := [some (.ref 75), none]) zmt_196 zco_196 rfl rfl (zid_a zid_n) zid_n ?_
  delta f_X12_tries at h
  refine g_iconst (pc' := 1) (v := (0 : Int32)) hc rfl zki_0 rfl ?_
  refine g_istore_n (pc' := 2) (ls1 := [some (.ref 75), some (.int (0 : Int32))]) hc rfl (zlt rfl) rfl rfl ?_
  refine zjn (G := (fun (y4 : (Nat → Int32)) => ∀ z3 : Option Value, znl z3 = true → pm_ev C_X12_tries (d + 1) (pm_call M cost zext d) cost (false, false) 108 0 0 Q 29 [some (.ref 75), z3] [] 0 0 (zS p q I [(91, none, y4)] J []))) (zwp_bind h) ?_ (fun h => ?_)
  · rintro y4 h z3 hz3
    replace h := zws h
    exact g_return hc rfl rfl (fun _ => ⟨rfl, rfl⟩) h
  refine zitr_ev (G := (fun (g : Int32 × (Nat → Int32)) => match g with | (x1, x2) => pm_ev C_X12_tries (d + 1) (pm_call M cost zext d) cost (false, false) 108 0 0 Q 2 [some (.ref 75), some (.int x1)] [] 0 0 (zS p q I [(91, none, x2)] J []))) ?_ zFU ((0 : Int32), (I 91)) h
  rintro ⟨x1, x2⟩ h
  refine g_iload_n (pc' := 3)  hc rfl rfl rfl ?_
  refine g_bipush (pc' := 5) (v := (70 : Int32)) hc rfl zkb_70 rfl ?_
  refine g_icmp_ge (pc' := 8) hc rfl rfl (fun hx => ?_) (fun hx => ?_)
  · replace h := zwp_t h hx
    replace h := zwp_r h
    exact h (some (.int x1)) rfl
  · replace h := zwp_f h hx
    refine g_aload_n (pc' := 9)  hc rfl rfl rfl rfl ?_
    refine z_getR (pc' := 12)  hc rfl rfl rfl sh_75 rfl rfl ?_
    refine g_bipush (pc' := 14) (v := (70 : Int32)) hc rfl zkb_70 rfl ?_
    refine g_iload_n (pc' := 15)  hc rfl rfl rfl ?_
    refine g_iadd (pc' := 16)  hc rfl rfl ?_
    refine g_aload_n (pc' := 17)  hc rfl rfl rfl rfl ?_
    refine z_getR (pc' := 20)  hc rfl rfl rfl sh_75 rfl rfl ?_
    refine g_iload_n (pc' := 21)  hc rfl rfl rfl ?_
    have hb := (zwp_bnd h).1
    replace h := (zwp_bnd h).2
    refine z_iaload (pc' := 22) (v := (x2 x1.toNatClampNeg)) hc rfl rfl sh_91 hb rfl rfl ?_
    have hb := (zwp_bnd h).1
    replace h := (zwp_bnd h).2
    refine z_iastore (pc' := 23) (g := x2) (L' := [(91, none, (upd x2 ((70 : Int32) + x1).toNatClampNeg (x2 x1.toNatClampNeg)))]) hc rfl rfl sh_91 hb rfl rfl rfl rfl ?_
    refine g_iinc (pc' := 26) (ls1 := [some (.ref 75), some (.int (x1 + (1 : Int32)))]) hc rfl rfl zki_1 (zlt rfl) rfl rfl ?_
    refine g_goto hc rfl ?_
    replace h := zwp_l h
    exact h
set_option maxRecDepth 4000 in
theorem ok_X12_hoursGo_75 {p q : Nat} {I : pI} {J : pJ} {a1 : Int32} {Q : pQ} {d : Nat} (hd : 7 ≤ d) (h : zwp (f_X12_hoursGo a1 (I 80) (I 75 6) (I 75 53) (I 75 3) (I 75 7) (I 75 8) (I 79) (I 75 5) (I 94) (I 91) (I 75 2) (I 93) (I 76) (I 77) (I 75 1)) (fun w => match w with | (o0, o1, o2) => Q (.inl none) (zS p q I [(91, none, o1), (93, none, o2), (94, none, o0)] J []))) : pm_call M cost zext d 210 [.ref 75, .int a1] (pm_st 108 (shp p q) I J) Q := by
  obtain ⟨d, rfl⟩ := zd1 hd rfl
  have hc := pm_call_m (M := M) (cost := cost) zext_m d
  refine z_in (L := [(91, none, (I 91)), (93, none, (I 93)), (94, none, (I 94))]) (K := []) (ls := [some (.ref 75), some (.int a1), none]) zmt_210 zco_210 rfl rfl (zid_a (zid_a (zid_a zid_n))) zid_n ?_
  delta f_X12_hoursGo at h
  refine g_iconst (pc' := 1) (v := (0 : Int32)) hc rfl zki_0 rfl ?_
  refine g_istore_n (pc' := 2) (ls1 := [some (.ref 75), some (.int a1), some (.int (0 : Int32))]) hc rfl (zlt rfl) rfl rfl ?_
  refine zjn (G := (fun (g : (Nat → Int32) × (Nat → Int32) × (Nat → Int32)) => match g with | (y6, y7, y8) => ∀ z5 : Option Value, znl z5 = true → pm_ev C_X12_hoursGo (d + 1) (pm_call M cost zext d) cost (false, false) 108 0 0 Q 19 [some (.ref 75), some (.int a1), z5] [] 0 0 (zS p q I [(91, none, y7), (93, none, y8), (94, none, y6)] J []))) (zwp_bind h) ?_ (fun h => ?_)
  · rintro ⟨y6, y7, y8⟩ h z5 hz5
    replace h := zws h
    exact g_return hc rfl rfl (fun _ => ⟨rfl, rfl⟩) h
  refine zitr_ev (G := (fun (g : Int32 × (Nat → Int32) × (Nat → Int32) × (Nat → Int32)) => match g with | (x1, x2, x3, x4) => pm_ev C_X12_hoursGo (d + 1) (pm_call M cost zext d) cost (false, false) 108 0 0 Q 2 [some (.ref 75), some (.int a1), some (.int x1)] [] 0 0 (zS p q I [(91, none, x3), (93, none, x4), (94, none, x2)] J []))) ?_ zFU ((0 : Int32), (I 94), (I 91), (I 93)) h
  rintro ⟨x1, x2, x3, x4⟩ h
  refine g_iload_n (pc' := 3)  hc rfl rfl rfl ?_
  refine g_iload_n (pc' := 4)  hc rfl rfl rfl ?_
  refine g_icmp_ge (pc' := 7) hc rfl rfl (fun hx => ?_) (fun hx => ?_)
  · replace h := zwp_t h hx
    replace h := zwp_r h
    exact h (some (.int x1)) rfl
  · replace h := zwp_f h hx
    refine g_aload_n (pc' := 8)  hc rfl rfl rfl rfl ?_
    refine g_bipush (pc' := 10) (v := (70 : Int32)) hc rfl zkb_70 rfl ?_
    refine z_virt (as := [.int (70 : Int32)]) (a := 75) (r := []) hc rfl rfl rfl rfl sh_75 rfl zco_209 rfl rfl rfl ?_
    refine ok_X12_hourGoes_75 (zdp hd rfl) (zwp_mono (zwp_bind h) ?_)
    rintro ⟨o9, o10, o11⟩ h
    refine z_po (pc' := 13) (st' := []) (v := none) (L' := [(91, none, o10), (93, none, o11), (94, none, o9)]) (K' := []) zco_209 rfl rfl rfl rfl rfl rfl rfl rfl ?_
    refine g_iinc (pc' := 16) (ls1 := [some (.ref 75), some (.int a1), some (.int (x1 + (1 : Int32)))]) hc rfl rfl zki_1 (zlt rfl) rfl rfl ?_
    refine g_goto hc rfl ?_
    replace h := zwp_l h
    exact h
set_option maxRecDepth 4000 in
theorem ok_X12_goesTo_75 {p q : Nat} {I : pI} {J : pJ} {a1 : Int32} {Q : pQ} {d : Nat} (hd : 8 ≤ d) (h : zwp (f_X12_goesTo a1 (I 80) (I 75 6) (I 75 53) (I 75 3) (I 75 7) (I 75 8) (I 79) (I 75 5) (I 94) (I 91) (I 75 2) (I 93) (I 76) (I 77) (I 75 1)) (fun w => match w with | (o0, o1, o2) => Q (.inl none) (zS p q I [(91, none, o1), (93, none, o2), (94, none, o0)] J []))) : pm_call M cost zext d 228 [.ref 75, .int a1] (pm_st 108 (shp p q) I J) Q := by
  obtain ⟨d, rfl⟩ := zd1 hd rfl
  have hc := pm_call_m (M := M) (cost := cost) zext_m d
  refine z_in (L := [(91, none, (I 91)), (93, none, (I 93)), (94, none, (I 94))]) (K := []) (ls := [some (.ref 75), some (.int a1)]) zmt_228 zco_228 rfl rfl (zid_a (zid_a (zid_a zid_n))) zid_n ?_
  delta f_X12_goesTo at h
  refine g_aload_n (pc' := 1)  hc rfl rfl rfl rfl ?_
  refine z_virt (as := []) (a := 75) (r := []) hc rfl rfl rfl rfl sh_75 rfl zco_196 rfl rfl rfl ?_
  refine ok_X12_tries_75 (zdp hd rfl) (zwp_mono (zwp_bind h) ?_)
  rintro o1 h
  refine z_po (pc' := 4) (st' := []) (v := none) (L' := [(91, none, o1), (93, none, (I 93)), (94, none, (I 94))]) (K' := []) zco_196 rfl rfl rfl rfl rfl rfl rfl rfl ?_
  refine g_aload_n (pc' := 5)  hc rfl rfl rfl rfl ?_
  refine g_iload_n (pc' := 6)  hc rfl rfl rfl ?_
  refine z_virt (as := [.int a1]) (a := 75) (r := []) hc rfl rfl rfl rfl sh_75 rfl zco_210 rfl rfl rfl ?_
  refine ok_X12_hoursGo_75 (zdp hd rfl) (zwp_mono (zwp_bind h) ?_)
  rintro ⟨o2, o3, o4⟩ h
  refine z_po (pc' := 9) (st' := []) (v := none) (L' := [(91, none, o3), (93, none, o4), (94, none, o2)]) (K' := []) zco_210 rfl rfl rfl rfl rfl rfl rfl rfl ?_
  replace h := zws h
  exact g_return hc rfl rfl (fun _ => ⟨rfl, rfl⟩) h
set_option maxRecDepth 4000 in
theorem ok_X12_then_75 {p q : Nat} {I : pI} {J : pJ} {a1 : Int32} {a2 : Int32} {a3 : Int32} {Q : pQ} {d : Nat} (hd : 9 ≤ d) (h : zwp (f_X12_then a1 a2 a3 (I 80) (I 75 6) (I 75 53) (I 75 3) (I 75 7) (I 75 8) (I 79) (I 75 5) (I 94) (I 91) (I 75 2) (I 75 0) (I 93) (I 76) (I 77) (I 75 1)) (fun w => match w with | (r, o0, o1, o2, o3) => Q (.inl (some (.int r))) (zS p q I [(75, some 0, fun _ => o2), (91, none, o1), (93, none, o3), (94, none, o0)] J []))) : pm_call M cost zext d 229 [.ref 75, .int a1, .int a2, .int a3] (pm_st 108 (shp p q) I J) Q := by
  obtain ⟨d, rfl⟩ := zd1 hd rfl
  have hc := pm_call_m (M := M) (cost := cost) zext_m d
  refine z_in (L := [(75, some 0, fun _ => (I 75 0)), (91, none, (I 91)), (93, none, (I 93)), (94, none, (I 94))]) (K := []) (ls := [some (.ref 75), some (.int a1), some (.int a2), some (.int a3)]) zmt_229 zco_229 rfl rfl (zid_s (zid_a (zid_a (zid_a zid_n)))) zid_n ?_
  delta f_X12_then at h
  refine g_aload_n (pc' := 1)  hc rfl rfl rfl rfl ?_
  refine g_iconst (pc' := 2) (v := (0 : Int32)) hc rfl zki_0 rfl ?_
  refine z_putI (pc' := 5) (L' := [(75, some 0, fun _ => (0 : Int32)), (91, none, (I 91)), (93, none, (I 93)), (94, none, (I 94))]) hc rfl rfl rfl sh_75 rfl zft_12_0 rfl (fun h => Bool.noConfusion h) rfl rfl rfl ?_
  refine g_aload_n (pc' := 6)  hc rfl rfl rfl rfl ?_
  refine g_iload_n (pc' := 7)  hc rfl rfl rfl ?_
  refine z_virt (as := [.int a1]) (a := 75) (r := []) hc rfl rfl rfl rfl sh_75 rfl zco_216 rfl rfl rfl ?_
  refine ok_X12_isFigure_75 (zdp hd rfl) (zwp_mono (zwp_bind h) ?_)
  rintro ⟨r2, o1⟩ h
  refine z_po (pc' := 10) (st' := [.int r2]) (v := (some (.int r2))) (L' := [(75, some 0, fun _ => o1), (91, none, (I 91)), (93, none, (I 93)), (94, none, (I 94))]) (K' := []) zco_216 rfl rfl rfl rfl rfl rfl rfl rfl ?_
  refine g_if_eq (pc' := 13) hc rfl rfl (fun hx => ?_) (fun hx => ?_)
  · replace h := zwp_t h hx
    refine g_iconst (pc' := 33) (v := (0 : Int32)) hc rfl zki_0 rfl ?_
    replace h := zws h
    exact g_ireturn hc rfl rfl rfl (fun _ => ⟨rfl, rfl⟩) h
  · replace h := zwp_f h hx
    refine g_aload_n (pc' := 14)  hc rfl rfl rfl rfl ?_
    refine g_iload_n (pc' := 15)  hc rfl rfl rfl ?_
    refine g_iconst (pc' := 16) (v := (2 : Int32)) hc rfl zki_2 rfl ?_
    refine z_virt (as := [.int a3, .int (2 : Int32)]) (a := 75) (r := []) hc rfl rfl rfl rfl sh_75 rfl zco_218 rfl rfl rfl ?_
    refine ok_X12_isWhat_75 (zdp hd rfl) (zwp_mono (zwp_bind h) ?_)
    rintro ⟨r4, o3⟩ h
    refine z_po (pc' := 19) (st' := [.int r4]) (v := (some (.int r4))) (L' := [(75, some 0, fun _ => o3), (91, none, (I 91)), (93, none, (I 93)), (94, none, (I 94))]) (K' := []) zco_218 rfl rfl rfl rfl rfl rfl rfl rfl ?_
    refine g_if_eq (pc' := 22) hc rfl rfl (fun hx => ?_) (fun hx => ?_)
    · replace h := zwp_t h hx
      refine g_iconst (pc' := 33) (v := (0 : Int32)) hc rfl zki_0 rfl ?_
      replace h := zws h
      exact g_ireturn hc rfl rfl rfl (fun _ => ⟨rfl, rfl⟩) h
    · replace h := zwp_f h hx
      refine g_aload_n (pc' := 23)  hc rfl rfl rfl rfl ?_
      refine g_iload_n (pc' := 24)  hc rfl rfl rfl ?_
      refine g_iconst (pc' := 25) (v := (0 : Int32)) hc rfl zki_0 rfl ?_
      refine g_iconst (pc' := 26) (v := (2 : Int32)) hc rfl zki_2 rfl ?_
      refine z_virt (as := [.int a2, .int (0 : Int32), .int (2 : Int32)]) (a := 75) (r := []) hc rfl rfl rfl rfl sh_75 rfl zco_219 rfl rfl rfl ?_
      refine ok_X12_isSoon_75 (zdp hd rfl) (zwp_mono (zwp_bind h) ?_)
      rintro ⟨r6, o5⟩ h
      refine z_po (pc' := 29) (st' := [.int r6]) (v := (some (.int r6))) (L' := [(75, some 0, fun _ => o5), (91, none, (I 91)), (93, none, (I 93)), (94, none, (I 94))]) (K' := []) zco_219 rfl rfl rfl rfl rfl rfl rfl rfl ?_
      refine g_if_ne (pc' := 32) hc rfl rfl (fun hx => ?_) (fun hx => ?_)
      · replace h := zwp_f h hx
        refine g_aload_n (pc' := 35)  hc rfl rfl rfl rfl ?_
        refine g_iload_n (pc' := 36)  hc rfl rfl rfl ?_
        refine z_virt (as := [.int a2]) (a := 75) (r := []) hc rfl rfl rfl rfl sh_75 rfl zco_228 rfl rfl rfl ?_
        refine ok_X12_goesTo_75 (zdp hd rfl) (zwp_mono (zwp_bind h) ?_)
        rintro ⟨o7, o8, o9⟩ h
        refine z_po (pc' := 39) (st' := []) (v := none) (L' := [(75, some 0, fun _ => o5), (91, none, o8), (93, none, o9), (94, none, o7)]) (K' := []) zco_228 rfl rfl rfl rfl rfl rfl rfl rfl ?_
        refine g_aload_n (pc' := 40)  hc rfl rfl rfl rfl ?_
        refine z_getR (pc' := 43)  hc rfl rfl rfl sh_75 rfl rfl ?_
        refine g_bipush (pc' := 45) (v := (70 : Int32)) hc rfl zkb_70 rfl ?_
        refine g_iload_n (pc' := 46)  hc rfl rfl rfl ?_
        refine zjn (G := (fun (j10 : Int32) => pm_ev C_X12_then (d + 1) (pm_call M cost zext d) cost (false, false) 108 0 0 Q 65 [some (.ref 75), some (.int a1), some (.int a2), some (.int a3)] [.int j10, .int (70 : Int32), .ref 91] 0 0 (zS p q I [(75, some 0, fun _ => o5), (91, none, o8), (93, none, o9), (94, none, o7)] J []))) (zwp_bind h) ?_ (fun h => ?_)
        · rintro j10 h
          refine g_iadd (pc' := 66)  hc rfl rfl ?_
          refine g_iload_n (pc' := 67)  hc rfl rfl rfl ?_
          refine g_iadd (pc' := 68)  hc rfl rfl ?_
          have hb := (zwp_bnd h).1
          replace h := (zwp_bnd h).2
          refine z_iaload (pc' := 69) (v := (o8 (((70 : Int32) + j10) + a1).toNatClampNeg)) hc rfl rfl sh_91 hb rfl rfl ?_
          replace h := zws h
          exact g_ireturn hc rfl rfl rfl (fun _ => ⟨rfl, rfl⟩) h
        refine g_if_ne (pc' := 49) hc rfl rfl (fun hx => ?_) (fun hx => ?_)
        · replace h := zwp_f h hx
          refine g_iload_n (pc' := 54)  hc rfl rfl rfl ?_
          refine g_iconst (pc' := 55) (v := (1 : Int32)) hc rfl zki_1 rfl ?_
          refine g_icmp_ne (pc' := 58) hc rfl rfl (fun hx => ?_) (fun hx => ?_)
          · replace h := zwp_f h hx
            refine g_bipush (pc' := 65) (v := (17 : Int32)) hc rfl zkb_17 rfl ?_
            replace h := zws h
            exact h
          · replace h := zwp_t h hx
            refine g_bipush (pc' := 60) (v := (9 : Int32)) hc rfl zkb_9 rfl ?_
            refine g_goto hc rfl ?_
            replace h := zws h
            exact h
        · replace h := zwp_t h hx
          refine g_iconst (pc' := 50) (v := (1 : Int32)) hc rfl zki_1 rfl ?_
          refine g_goto hc rfl ?_
          replace h := zws h
          exact h
      · replace h := zwp_t h hx
        refine g_iconst (pc' := 33) (v := (0 : Int32)) hc rfl zki_0 rfl ?_
        replace h := zws h
        exact g_ireturn hc rfl rfl rfl (fun _ => ⟨rfl, rfl⟩) h
set_option maxRecDepth 4000 in
theorem ok_X12_comes_75 {p q : Nat} {I : pI} {J : pJ} {a1 : Int32} {a2 : Int32} {Q : pQ} {d : Nat} (hd : 7 ≤ d) (h : zwp (f_X12_comes a1 a2 (I 80) (I 75 6) (I 75 53) (I 75 3) (I 75 7) (I 75 8) (I 79) (I 75 5) (I 94) (I 91) (I 75 2) (I 75 0) (I 93) (I 76) (I 77) (I 75 1)) (fun w => match w with | (r, o0, o1, o2, o3) => Q (.inl (some (.int r))) (zS p q I [(75, some 0, fun _ => o2), (91, none, o1), (93, none, o3), (94, none, o0)] J []))) : pm_call M cost zext d 230 [.ref 75, .int a1, .int a2] (pm_st 108 (shp p q) I J) Q := by
  obtain ⟨d, rfl⟩ := zd1 hd rfl
  have hc := pm_call_m (M := M) (cost := cost) zext_m d
  refine z_in (L := [(75, some 0, fun _ => (I 75 0)), (91, none, (I 91)), (93, none, (I 93)), (94, none, (I 94))]) (K := []) (ls := [some (.ref 75), some (.int a1), some (.int a2), none]) zmt_230 zco_230 rfl rfl (zid_s (zid_a (zid_a (zid_a zid_n)))) zid_n ?_
  delta f_X12_comes at h
  refine g_aload_n (pc' := 1)  hc rfl rfl rfl rfl ?_
  refine g_iconst (pc' := 2) (v := (0 : Int32)) hc rfl zki_0 rfl ?_
  refine z_putI (pc' := 5) (L' := [(75, some 0, fun _ => (0 : Int32)), (91, none, (I 91)), (93, none, (I 93)), (94, none, (I 94))]) hc rfl rfl rfl sh_75 rfl zft_12_0 rfl (fun h => Bool.noConfusion h) rfl rfl rfl ?_
  refine g_aload_n (pc' := 6)  hc rfl rfl rfl rfl ?_
  refine g_iload_n (pc' := 7)  hc rfl rfl rfl ?_
  refine z_virt (as := [.int a1]) (a := 75) (r := []) hc rfl rfl rfl rfl sh_75 rfl zco_216 rfl rfl rfl ?_
  refine ok_X12_isFigure_75 (zdp hd rfl) (zwp_mono (zwp_bind h) ?_)
  rintro ⟨r2, o1⟩ h
  refine z_po (pc' := 10) (st' := [.int r2]) (v := (some (.int r2))) (L' := [(75, some 0, fun _ => o1), (91, none, (I 91)), (93, none, (I 93)), (94, none, (I 94))]) (K' := []) zco_216 rfl rfl rfl rfl rfl rfl rfl rfl ?_
  refine g_if_eq (pc' := 13) hc rfl rfl (fun hx => ?_) (fun hx => ?_)
  · replace h := zwp_t h hx
    refine g_iconst (pc' := 22) (v := (0 : Int32)) hc rfl zki_0 rfl ?_
    replace h := zws h
    exact g_ireturn hc rfl rfl rfl (fun _ => ⟨rfl, rfl⟩) h
  · replace h := zwp_f h hx
    refine g_aload_n (pc' := 14)  hc rfl rfl rfl rfl ?_
    refine g_iload_n (pc' := 15)  hc rfl rfl rfl ?_
    refine z_virt (as := [.int a2]) (a := 75) (r := []) hc rfl rfl rfl rfl sh_75 rfl zco_217 rfl rfl rfl ?_
    refine ok_X12_isCell_75 (zdp hd rfl) (zwp_mono (zwp_bind h) ?_)
    rintro ⟨r4, o3⟩ h
    refine z_po (pc' := 18) (st' := [.int r4]) (v := (some (.int r4))) (L' := [(75, some 0, fun _ => o3), (91, none, (I 91)), (93, none, (I 93)), (94, none, (I 94))]) (K' := []) zco_217 rfl rfl rfl rfl rfl rfl rfl rfl ?_
    refine g_if_ne (pc' := 21) hc rfl rfl (fun hx => ?_) (fun hx => ?_)
    · replace h := zwp_f h hx
      refine g_aload_n (pc' := 24)  hc rfl rfl rfl rfl ?_
      refine z_virt (as := []) (a := 75) (r := []) hc rfl rfl rfl rfl sh_75 rfl zco_196 rfl rfl rfl ?_
      refine ok_X12_tries_75 (zdp hd rfl) (zwp_mono (zwp_bind h) ?_)
      rintro o5 h
      refine z_po (pc' := 27) (st' := []) (v := none) (L' := [(75, some 0, fun _ => o3), (91, none, o5), (93, none, (I 93)), (94, none, (I 94))]) (K' := []) zco_196 rfl rfl rfl rfl rfl rfl rfl rfl ?_
      refine g_iconst (pc' := 28) (v := (0 : Int32)) hc rfl zki_0 rfl ?_
      refine g_istore_n (pc' := 29) (ls1 := [some (.ref 75), some (.int a1), some (.int a2), some (.int (0 : Int32))]) hc rfl (zlt rfl) rfl rfl ?_
      refine zjs (G := (fun (g : (Nat → Int32) × (Nat → Int32) × (Nat → Int32)) => match g with | (y11, y12, y13) => ∀ z10 : Option Value, znl z10 = true → pm_ev C_X12_comes (d + 1) (pm_call M cost zext d) cost (false, false) 108 0 0 Q 62 [some (.ref 75), some (.int a1), some (.int a2), z10] [] 0 0 (zS p q I [(75, some 0, fun _ => o3), (91, none, y12), (93, none, y13), (94, none, y11)] J []))) h ?_ (fun h => ?_)
      · rintro ⟨y11, y12, y13⟩ h z10 hz10
        refine g_iconst (pc' := 63) (v := (-1 : Int32)) hc rfl zki_m1 rfl ?_
        replace h := zws h
        exact g_ireturn hc rfl rfl rfl (fun _ => ⟨rfl, rfl⟩) h
      refine zitr_ev (G := (fun (g : Int32 × (Nat → Int32) × (Nat → Int32) × (Nat → Int32)) => match g with | (x6, x7, x8, x9) => pm_ev C_X12_comes (d + 1) (pm_call M cost zext d) cost (false, false) 108 0 0 Q 29 [some (.ref 75), some (.int a1), some (.int a2), some (.int x6)] [] 0 0 (zS p q I [(75, some 0, fun _ => o3), (91, none, x8), (93, none, x9), (94, none, x7)] J []))) ?_ zFU ((0 : Int32), (I 94), o5, (I 93)) h
      rintro ⟨x6, x7, x8, x9⟩ h
      refine g_iload_n (pc' := 30)  hc rfl rfl rfl ?_
      refine g_bipush (pc' := 32) (v := (100 : Int32)) hc rfl zkb_100 rfl ?_
      refine g_icmp_gt (pc' := 35) hc rfl rfl (fun hx => ?_) (fun hx => ?_)
      · replace h := zwp_t h hx
        replace h := zwp_r h
        exact h (some (.int x6)) rfl
      · replace h := zwp_f h hx
        refine g_aload_n (pc' := 36)  hc rfl rfl rfl rfl ?_
        refine z_getR (pc' := 39)  hc rfl rfl rfl sh_75 rfl rfl ?_
        refine g_bipush (pc' := 41) (v := (71 : Int32)) hc rfl zkb_71 rfl ?_
        refine g_iload_n (pc' := 42)  hc rfl rfl rfl ?_
        refine g_iadd (pc' := 43)  hc rfl rfl ?_
        have hb := (zwp_bnd h).1
        replace h := (zwp_bnd h).2
        refine z_iaload (pc' := 44) (v := (x8 ((71 : Int32) + a1).toNatClampNeg)) hc rfl rfl sh_91 hb rfl rfl ?_
        refine g_iload_n (pc' := 45)  hc rfl rfl rfl ?_
        refine g_icmp_ne (pc' := 48) hc rfl rfl (fun hx => ?_) (fun hx => ?_)
        · replace h := zwp_f h hx
          refine g_aload_n (pc' := 51)  hc rfl rfl rfl rfl ?_
          refine g_bipush (pc' := 53) (v := (70 : Int32)) hc rfl zkb_70 rfl ?_
          refine z_virt (as := [.int (70 : Int32)]) (a := 75) (r := []) hc rfl rfl rfl rfl sh_75 rfl zco_209 rfl rfl rfl ?_
          refine ok_X12_hourGoes_75 (zdp hd rfl) (zwp_mono (zwp_bind h) ?_)
          rintro ⟨o14, o15, o16⟩ h
          refine z_po (pc' := 56) (st' := []) (v := none) (L' := [(75, some 0, fun _ => o3), (91, none, o15), (93, none, o16), (94, none, o14)]) (K' := []) zco_209 rfl rfl rfl rfl rfl rfl rfl rfl ?_
          refine g_iinc (pc' := 59) (ls1 := [some (.ref 75), some (.int a1), some (.int a2), some (.int (x6 + (1 : Int32)))]) hc rfl rfl zki_1 (zlt rfl) rfl rfl ?_
          refine g_goto hc rfl ?_
          replace h := zwp_l h
          exact h
        · replace h := zwp_t h hx
          refine g_iload_n (pc' := 49)  hc rfl rfl rfl ?_
          replace h := zws h
          exact g_ireturn hc rfl rfl rfl (fun _ => ⟨rfl, rfl⟩) h
    · replace h := zwp_t h hx
      refine g_iconst (pc' := 22) (v := (0 : Int32)) hc rfl zki_0 rfl ?_
      replace h := zws h
      exact g_ireturn hc rfl rfl rfl (fun _ => ⟨rfl, rfl⟩) h
set_option maxRecDepth 4000 in
theorem ok_X12_meet_75 {p q : Nat} {I : pI} {J : pJ} {a1 : Int32} {a2 : Int32} {Q : pQ} {d : Nat} (hd : 7 ≤ d) (h : zwp (f_X12_meet a1 a2 (I 80) (I 75 6) (I 75 53) (I 75 3) (I 75 7) (I 75 8) (I 79) (I 75 5) (I 94) (I 91) (I 75 2) (I 75 0) (I 93) (I 76) (I 77) (I 75 1)) (fun w => match w with | (r, o0, o1, o2, o3) => Q (.inl (some (.int r))) (zS p q I [(75, some 0, fun _ => o2), (91, none, o1), (93, none, o3), (94, none, o0)] J []))) : pm_call M cost zext d 231 [.ref 75, .int a1, .int a2] (pm_st 108 (shp p q) I J) Q := by
  obtain ⟨d, rfl⟩ := zd1 hd rfl
  have hc := pm_call_m (M := M) (cost := cost) zext_m d
  refine z_in (L := [(75, some 0, fun _ => (I 75 0)), (91, none, (I 91)), (93, none, (I 93)), (94, none, (I 94))]) (K := []) (ls := [some (.ref 75), some (.int a1), some (.int a2), none]) zmt_231 zco_231 rfl rfl (zid_s (zid_a (zid_a (zid_a zid_n)))) zid_n ?_
  delta f_X12_meet at h
  refine g_aload_n (pc' := 1)  hc rfl rfl rfl rfl ?_
  refine g_iconst (pc' := 2) (v := (0 : Int32)) hc rfl zki_0 rfl ?_
  refine z_putI (pc' := 5) (L' := [(75, some 0, fun _ => (0 : Int32)), (91, none, (I 91)), (93, none, (I 93)), (94, none, (I 94))]) hc rfl rfl rfl sh_75 rfl zft_12_0 rfl (fun h => Bool.noConfusion h) rfl rfl rfl ?_
  refine g_aload_n (pc' := 6)  hc rfl rfl rfl rfl ?_
  refine g_iload_n (pc' := 7)  hc rfl rfl rfl ?_
  refine z_virt (as := [.int a1]) (a := 75) (r := []) hc rfl rfl rfl rfl sh_75 rfl zco_216 rfl rfl rfl ?_
  refine ok_X12_isFigure_75 (zdp hd rfl) (zwp_mono (zwp_bind h) ?_)
  rintro ⟨r2, o1⟩ h
  refine z_po (pc' := 10) (st' := [.int r2]) (v := (some (.int r2))) (L' := [(75, some 0, fun _ => o1), (91, none, (I 91)), (93, none, (I 93)), (94, none, (I 94))]) (K' := []) zco_216 rfl rfl rfl rfl rfl rfl rfl rfl ?_
  refine g_if_eq (pc' := 13) hc rfl rfl (fun hx => ?_) (fun hx => ?_)
  · replace h := zwp_t h hx
    refine g_iconst (pc' := 22) (v := (0 : Int32)) hc rfl zki_0 rfl ?_
    replace h := zws h
    exact g_ireturn hc rfl rfl rfl (fun _ => ⟨rfl, rfl⟩) h
  · replace h := zwp_f h hx
    refine g_aload_n (pc' := 14)  hc rfl rfl rfl rfl ?_
    refine g_iload_n (pc' := 15)  hc rfl rfl rfl ?_
    refine z_virt (as := [.int a2]) (a := 75) (r := []) hc rfl rfl rfl rfl sh_75 rfl zco_216 rfl rfl rfl ?_
    refine ok_X12_isFigure_75 (zdp hd rfl) (zwp_mono (zwp_bind h) ?_)
    rintro ⟨r4, o3⟩ h
    refine z_po (pc' := 18) (st' := [.int r4]) (v := (some (.int r4))) (L' := [(75, some 0, fun _ => o3), (91, none, (I 91)), (93, none, (I 93)), (94, none, (I 94))]) (K' := []) zco_216 rfl rfl rfl rfl rfl rfl rfl rfl ?_
    refine g_if_ne (pc' := 21) hc rfl rfl (fun hx => ?_) (fun hx => ?_)
    · replace h := zwp_f h hx
      refine g_aload_n (pc' := 24)  hc rfl rfl rfl rfl ?_
      refine z_virt (as := []) (a := 75) (r := []) hc rfl rfl rfl rfl sh_75 rfl zco_196 rfl rfl rfl ?_
      refine ok_X12_tries_75 (zdp hd rfl) (zwp_mono (zwp_bind h) ?_)
      rintro o5 h
      refine z_po (pc' := 27) (st' := []) (v := none) (L' := [(75, some 0, fun _ => o3), (91, none, o5), (93, none, (I 93)), (94, none, (I 94))]) (K' := []) zco_196 rfl rfl rfl rfl rfl rfl rfl rfl ?_
      refine g_iconst (pc' := 28) (v := (0 : Int32)) hc rfl zki_0 rfl ?_
      refine g_istore_n (pc' := 29) (ls1 := [some (.ref 75), some (.int a1), some (.int a2), some (.int (0 : Int32))]) hc rfl (zlt rfl) rfl rfl ?_
      refine zjs (G := (fun (g : (Nat → Int32) × (Nat → Int32) × (Nat → Int32)) => match g with | (y11, y12, y13) => ∀ z10 : Option Value, znl z10 = true → pm_ev C_X12_meet (d + 1) (pm_call M cost zext d) cost (false, false) 108 0 0 Q 75 [some (.ref 75), some (.int a1), some (.int a2), z10] [] 0 0 (zS p q I [(75, some 0, fun _ => o3), (91, none, y12), (93, none, y13), (94, none, y11)] J []))) h ?_ (fun h => ?_)
      · rintro ⟨y11, y12, y13⟩ h z10 hz10
        refine g_iconst (pc' := 76) (v := (-1 : Int32)) hc rfl zki_m1 rfl ?_
        replace h := zws h
        exact g_ireturn hc rfl rfl rfl (fun _ => ⟨rfl, rfl⟩) h
      refine zitr_ev (G := (fun (g : Int32 × (Nat → Int32) × (Nat → Int32) × (Nat → Int32)) => match g with | (x6, x7, x8, x9) => pm_ev C_X12_meet (d + 1) (pm_call M cost zext d) cost (false, false) 108 0 0 Q 29 [some (.ref 75), some (.int a1), some (.int a2), some (.int x6)] [] 0 0 (zS p q I [(75, some 0, fun _ => o3), (91, none, x8), (93, none, x9), (94, none, x7)] J []))) ?_ zFU ((0 : Int32), (I 94), o5, (I 93)) h
      rintro ⟨x6, x7, x8, x9⟩ h
      refine g_iload_n (pc' := 30)  hc rfl rfl rfl ?_
      refine g_bipush (pc' := 32) (v := (100 : Int32)) hc rfl zkb_100 rfl ?_
      refine g_icmp_gt (pc' := 35) hc rfl rfl (fun hx => ?_) (fun hx => ?_)
      · replace h := zwp_t h hx
        replace h := zwp_r h
        exact h (some (.int x6)) rfl
      · replace h := zwp_f h hx
        refine g_iload_n (pc' := 36)  hc rfl rfl rfl ?_
        refine g_iload_n (pc' := 37)  hc rfl rfl rfl ?_
        refine g_icmp_eq (pc' := 40) hc rfl rfl (fun hx => ?_) (fun hx => ?_)
        · replace h := zwp_t h hx
          replace h := zwp_r h
          exact h (some (.int x6)) rfl
        · replace h := zwp_f h hx
          refine g_aload_n (pc' := 41)  hc rfl rfl rfl rfl ?_
          refine z_getR (pc' := 44)  hc rfl rfl rfl sh_75 rfl rfl ?_
          refine g_bipush (pc' := 46) (v := (71 : Int32)) hc rfl zkb_71 rfl ?_
          refine g_iload_n (pc' := 47)  hc rfl rfl rfl ?_
          refine g_iadd (pc' := 48)  hc rfl rfl ?_
          have hb := (zwp_bnd h).1
          replace h := (zwp_bnd h).2
          refine z_iaload (pc' := 49) (v := (x8 ((71 : Int32) + a1).toNatClampNeg)) hc rfl rfl sh_91 hb rfl rfl ?_
          refine g_aload_n (pc' := 50)  hc rfl rfl rfl rfl ?_
          refine z_getR (pc' := 53)  hc rfl rfl rfl sh_75 rfl rfl ?_
          refine g_bipush (pc' := 55) (v := (71 : Int32)) hc rfl zkb_71 rfl ?_
          refine g_iload_n (pc' := 56)  hc rfl rfl rfl ?_
          refine g_iadd (pc' := 57)  hc rfl rfl ?_
          have hb := (zwp_bnd h).1
          replace h := (zwp_bnd h).2
          refine z_iaload (pc' := 58) (v := (x8 ((71 : Int32) + a2).toNatClampNeg)) hc rfl rfl sh_91 hb rfl rfl ?_
          refine g_icmp_ne (pc' := 61) hc rfl rfl (fun hx => ?_) (fun hx => ?_)
          · replace h := zwp_f h hx
            refine g_aload_n (pc' := 64)  hc rfl rfl rfl rfl ?_
            refine g_bipush (pc' := 66) (v := (70 : Int32)) hc rfl zkb_70 rfl ?_
            refine z_virt (as := [.int (70 : Int32)]) (a := 75) (r := []) hc rfl rfl rfl rfl sh_75 rfl zco_209 rfl rfl rfl ?_
            refine ok_X12_hourGoes_75 (zdp hd rfl) (zwp_mono (zwp_bind h) ?_)
            rintro ⟨o14, o15, o16⟩ h
            refine z_po (pc' := 69) (st' := []) (v := none) (L' := [(75, some 0, fun _ => o3), (91, none, o15), (93, none, o16), (94, none, o14)]) (K' := []) zco_209 rfl rfl rfl rfl rfl rfl rfl rfl ?_
            refine g_iinc (pc' := 72) (ls1 := [some (.ref 75), some (.int a1), some (.int a2), some (.int (x6 + (1 : Int32)))]) hc rfl rfl zki_1 (zlt rfl) rfl rfl ?_
            refine g_goto hc rfl ?_
            replace h := zwp_l h
            exact h
          · replace h := zwp_t h hx
            refine g_iload_n (pc' := 62)  hc rfl rfl rfl ?_
            replace h := zws h
            exact g_ireturn hc rfl rfl rfl (fun _ => ⟨rfl, rfl⟩) h
    · replace h := zwp_t h hx
      refine g_iconst (pc' := 22) (v := (0 : Int32)) hc rfl zki_0 rfl ?_
      replace h := zws h
      exact g_ireturn hc rfl rfl rfl (fun _ => ⟨rfl, rfl⟩) h
set_option maxRecDepth 4000 in
theorem ok_X12_clears_75 {p q : Nat} {I : pI} {J : pJ} {Q : pQ} {d : Nat} (hd : 1 ≤ d) (h : zwp (f_X12_clears (I 97)) (fun o0 => Q (.inl none) (zS p q I [(97, none, o0)] J []))) : pm_call M cost zext d 233 [.ref 75] (pm_st 108 (shp p q) I J) Q := by
  obtain ⟨d, rfl⟩ := zd1 hd rfl
  have hc := pm_call_m (M := M) (cost := cost) zext_m d
  refine z_in (L := [(97, none, (I 97))]) (K := []) (ls := [some (.ref 75), none]) zmt_233 zco_233 rfl rfl (zid_a zid_n) zid_n ?_
  delta f_X12_clears at h
  refine g_iconst (pc' := 1) (v := (0 : Int32)) hc rfl zki_0 rfl ?_
  refine g_istore_n (pc' := 2) (ls1 := [some (.ref 75), some (.int (0 : Int32))]) hc rfl (zlt rfl) rfl rfl ?_
  refine zjn (G := (fun (y4 : (Nat → Int32)) => ∀ z3 : Option Value, znl z3 = true → pm_ev C_X12_clears (d + 1) (pm_call M cost zext d) cost (false, false) 108 0 0 Q 21 [some (.ref 75), z3] [] 0 0 (zS p q I [(97, none, y4)] J []))) (zwp_bind h) ?_ (fun h => ?_)
  · rintro y4 h z3 hz3
    replace h := zws h
    exact g_return hc rfl rfl (fun _ => ⟨rfl, rfl⟩) h
  refine zitr_ev (G := (fun (g : Int32 × (Nat → Int32)) => match g with | (x1, x2) => pm_ev C_X12_clears (d + 1) (pm_call M cost zext d) cost (false, false) 108 0 0 Q 2 [some (.ref 75), some (.int x1)] [] 0 0 (zS p q I [(97, none, x2)] J []))) ?_ zFU ((0 : Int32), (I 97)) h
  rintro ⟨x1, x2⟩ h
  refine g_iload_n (pc' := 3)  hc rfl rfl rfl ?_
  refine g_bipush (pc' := 5) (v := (36 : Int32)) hc rfl zkb_36 rfl ?_
  refine g_icmp_ge (pc' := 8) hc rfl rfl (fun hx => ?_) (fun hx => ?_)
  · replace h := zwp_t h hx
    replace h := zwp_r h
    exact h (some (.int x1)) rfl
  · replace h := zwp_f h hx
    refine g_aload_n (pc' := 9)  hc rfl rfl rfl rfl ?_
    refine z_getR (pc' := 12)  hc rfl rfl rfl sh_75 rfl rfl ?_
    refine g_iload_n (pc' := 13)  hc rfl rfl rfl ?_
    refine g_iconst (pc' := 14) (v := (0 : Int32)) hc rfl zki_0 rfl ?_
    have hb := (zwp_bnd h).1
    replace h := (zwp_bnd h).2
    refine z_iastore (pc' := 15) (g := x2) (L' := [(97, none, (upd x2 x1.toNatClampNeg (0 : Int32)))]) hc rfl rfl sh_97 hb rfl rfl rfl rfl ?_
    refine g_iinc (pc' := 18) (ls1 := [some (.ref 75), some (.int (x1 + (1 : Int32)))]) hc rfl rfl zki_1 (zlt rfl) rfl rfl ?_
    refine g_goto hc rfl ?_
    replace h := zwp_l h
    exact h
set_option maxRecDepth 4000 in
theorem ok_X12_marks_75 {p q : Nat} {I : pI} {J : pJ} {Q : pQ} {d : Nat} (hd : 1 ≤ d) (h : zwp (f_X12_marks (I 75 3) (I 97) (I 91)) (fun o0 => Q (.inl none) (zS p q I [(97, none, o0)] J []))) : pm_call M cost zext d 234 [.ref 75] (pm_st 108 (shp p q) I J) Q := by
  obtain ⟨d, rfl⟩ := zd1 hd rfl
  have hc := pm_call_m (M := M) (cost := cost) zext_m d
  refine z_in (L := [(97, none, (I 97))]) (K := []) (ls := [some (.ref 75), none]) zmt_234 zco_234 rfl rfl (zid_a zid_n) zid_n ?_
  delta f_X12_marks at h
  refine g_iconst (pc' := 1) (v := (0 : Int32)) hc rfl zki_0 rfl ?_
  refine g_istore_n (pc' := 2) (ls1 := [some (.ref 75), some (.int (0 : Int32))]) hc rfl (zlt rfl) rfl rfl ?_
  refine zjn (G := (fun (y4 : (Nat → Int32)) => ∀ z3 : Option Value, znl z3 = true → pm_ev C_X12_marks (d + 1) (pm_call M cost zext d) cost (false, false) 108 0 0 Q 34 [some (.ref 75), z3] [] 0 0 (zS p q I [(97, none, y4)] J []))) (zwp_bind h) ?_ (fun h => ?_)
  · rintro y4 h z3 hz3
    replace h := zws h
    exact g_return hc rfl rfl (fun _ => ⟨rfl, rfl⟩) h
  refine zitr_ev (G := (fun (g : Int32 × (Nat → Int32)) => match g with | (x1, x2) => pm_ev C_X12_marks (d + 1) (pm_call M cost zext d) cost (false, false) 108 0 0 Q 2 [some (.ref 75), some (.int x1)] [] 0 0 (zS p q I [(97, none, x2)] J []))) ?_ zFU ((0 : Int32), (I 97)) h
  rintro ⟨x1, x2⟩ h
  refine g_iload_n (pc' := 3)  hc rfl rfl rfl ?_
  refine g_aload_n (pc' := 4)  hc rfl rfl rfl rfl ?_
  refine z_getI (pc' := 7) (v := (I 75 3)) hc rfl rfl rfl sh_75 rfl rfl rfl ?_
  refine g_icmp_ge (pc' := 10) hc rfl rfl (fun hx => ?_) (fun hx => ?_)
  · replace h := zwp_t h hx
    replace h := zwp_r h
    exact h (some (.int x1)) rfl
  · replace h := zwp_f h hx
    refine g_aload_n (pc' := 11)  hc rfl rfl rfl rfl ?_
    refine z_getR (pc' := 14)  hc rfl rfl rfl sh_75 rfl rfl ?_
    refine g_aload_n (pc' := 15)  hc rfl rfl rfl rfl ?_
    refine z_getR (pc' := 18)  hc rfl rfl rfl sh_75 rfl rfl ?_
    refine g_bipush (pc' := 20) (v := (71 : Int32)) hc rfl zkb_71 rfl ?_
    refine g_iload_n (pc' := 21)  hc rfl rfl rfl ?_
    refine g_iadd (pc' := 22)  hc rfl rfl ?_
    have hb := (zwp_bnd h).1
    replace h := (zwp_bnd h).2
    refine z_iaload (pc' := 23) (v := (((I 91)) ((71 : Int32) + x1).toNatClampNeg)) hc rfl rfl sh_91 hb rfl rfl ?_
    refine g_dup2 (pc' := 24)  hc rfl rfl rfl rfl ?_
    have hb := (zwp_bnd h).1
    replace h := (zwp_bnd h).2
    refine z_iaload (pc' := 25) (v := (x2 (((I 91)) ((71 : Int32) + x1).toNatClampNeg).toNatClampNeg)) hc rfl rfl sh_97 hb rfl rfl ?_
    refine g_iconst (pc' := 26) (v := (1 : Int32)) hc rfl zki_1 rfl ?_
    refine g_iadd (pc' := 27)  hc rfl rfl ?_
    have hb := (zwp_bnd h).1
    replace h := (zwp_bnd h).2
    refine z_iastore (pc' := 28) (g := x2) (L' := [(97, none, (upd x2 (((I 91)) ((71 : Int32) + x1).toNatClampNeg).toNatClampNeg ((x2 (((I 91)) ((71 : Int32) + x1).toNatClampNeg).toNatClampNeg) + (1 : Int32))))]) hc rfl rfl sh_97 hb rfl rfl rfl rfl ?_
    refine g_iinc (pc' := 31) (ls1 := [some (.ref 75), some (.int (x1 + (1 : Int32)))]) hc rfl rfl zki_1 (zlt rfl) rfl rfl ?_
    refine g_goto hc rfl ?_
    replace h := zwp_l h
    exact h
set_option maxRecDepth 4000 in
theorem ok_X12_mostOften_75 {p q : Nat} {I : pI} {J : pJ} {Q : pQ} {d : Nat} (hd : 1 ≤ d) (h : zwp (f_X12_mostOften (I 97)) (fun r => Q (.inl (some (.int r))) (zS p q I [] J []))) : pm_call M cost zext d 232 [.ref 75] (pm_st 108 (shp p q) I J) Q := by
  obtain ⟨d, rfl⟩ := zd1 hd rfl
  have hc := pm_call_m (M := M) (cost := cost) zext_m d
  refine z_in (L := []) (K := []) (ls := [some (.ref 75), none, none]) zmt_232 zco_232 rfl rfl zid_n zid_n ?_
  delta f_X12_mostOften at h
  refine g_iconst (pc' := 1) (v := (-1 : Int32)) hc rfl zki_m1 rfl ?_
  refine g_istore_n (pc' := 2) (ls1 := [some (.ref 75), some (.int (-1 : Int32)), none]) hc rfl (zlt rfl) rfl rfl ?_
  refine g_iconst (pc' := 3) (v := (0 : Int32)) hc rfl zki_0 rfl ?_
  refine g_istore_n (pc' := 4) (ls1 := [some (.ref 75), some (.int (-1 : Int32)), some (.int (0 : Int32))]) hc rfl (zlt rfl) rfl rfl ?_
  refine zjn (G := (fun (y3 : Int32) => ∀ z4 : Option Value, znl z4 = true → pm_ev C_X12_mostOften (d + 1) (pm_call M cost zext d) cost (false, false) 108 0 0 Q 42 [some (.ref 75), some (.int y3), z4] [] 0 0 (zS p q I [] J []))) (zwp_bind h) ?_ (fun h => ?_)
  · rintro y3 h z4 hz4
    refine g_iload_n (pc' := 43)  hc rfl rfl rfl ?_
    replace h := zws h
    exact g_ireturn hc rfl rfl rfl (fun _ => ⟨rfl, rfl⟩) h
  refine zitr_ev (G := (fun (g : Int32 × Int32) => match g with | (x1, x2) => pm_ev C_X12_mostOften (d + 1) (pm_call M cost zext d) cost (false, false) 108 0 0 Q 4 [some (.ref 75), some (.int x1), some (.int x2)] [] 0 0 (zS p q I [] J []))) ?_ zFU ((-1 : Int32), (0 : Int32)) h
  rintro ⟨x1, x2⟩ h
  refine g_iload_n (pc' := 5)  hc rfl rfl rfl ?_
  refine g_bipush (pc' := 7) (v := (36 : Int32)) hc rfl zkb_36 rfl ?_
  refine g_icmp_ge (pc' := 10) hc rfl rfl (fun hx => ?_) (fun hx => ?_)
  · replace h := zwp_t h hx
    replace h := zwp_r h
    exact h (some (.int x2)) rfl
  · replace h := zwp_f h hx
    refine g_aload_n (pc' := 11)  hc rfl rfl rfl rfl ?_
    refine z_getR (pc' := 14)  hc rfl rfl rfl sh_75 rfl rfl ?_
    refine g_iload_n (pc' := 15)  hc rfl rfl rfl ?_
    have hb := (zwp_bnd h).1
    replace h := (zwp_bnd h).2
    refine z_iaload (pc' := 16) (v := (((I 97)) x2.toNatClampNeg)) hc rfl rfl sh_97 hb rfl rfl ?_
    refine g_iload_n (pc' := 17)  hc rfl rfl rfl ?_
    refine g_iconst (pc' := 18) (v := (-1 : Int32)) hc rfl zki_m1 rfl ?_
    refine zjn (G := (fun (j5 : Int32) => pm_ev C_X12_mostOften (d + 1) (pm_call M cost zext d) cost (false, false) 108 0 0 Q 31 [some (.ref 75), some (.int x1), some (.int x2)] [.int j5, .int (((I 97)) x2.toNatClampNeg)] 0 0 (zS p q I [] J []))) (zwp_bind h) ?_ (fun h => ?_)
    · rintro j5 h
      refine g_icmp_le (pc' := 34) hc rfl rfl (fun hx => ?_) (fun hx => ?_)
      · replace h := zwp_t h hx
        refine g_iinc (pc' := 39) (ls1 := [some (.ref 75), some (.int x1), some (.int (x2 + (1 : Int32)))]) hc rfl rfl zki_1 (zlt rfl) rfl rfl ?_
        refine g_goto hc rfl ?_
        replace h := zwp_l h
        exact h
      · replace h := zwp_f h hx
        refine g_iload_n (pc' := 35)  hc rfl rfl rfl ?_
        refine g_istore_n (pc' := 36) (ls1 := [some (.ref 75), some (.int x2), some (.int x2)]) hc rfl (zlt rfl) rfl rfl ?_
        refine g_iinc (pc' := 39) (ls1 := [some (.ref 75), some (.int x2), some (.int (x2 + (1 : Int32)))]) hc rfl rfl zki_1 (zlt rfl) rfl rfl ?_
        refine g_goto hc rfl ?_
        replace h := zwp_l h
        exact h
    refine g_icmp_ne (pc' := 21) hc rfl rfl (fun hx => ?_) (fun hx => ?_)
    · replace h := zwp_f h hx
      refine g_aload_n (pc' := 26)  hc rfl rfl rfl rfl ?_
      refine z_getR (pc' := 29)  hc rfl rfl rfl sh_75 rfl rfl ?_
      refine g_iload_n (pc' := 30)  hc rfl rfl rfl ?_
      have hb := (zwp_bnd h).1
      replace h := (zwp_bnd h).2
      refine z_iaload (pc' := 31) (v := (((I 97)) x1.toNatClampNeg)) hc rfl rfl sh_97 hb rfl rfl ?_
      replace h := zws h
      exact h
    · replace h := zwp_t h hx
      refine g_iconst (pc' := 22) (v := (0 : Int32)) hc rfl zki_0 rfl ?_
      refine g_goto hc rfl ?_
      replace h := zws h
      exact h
set_option maxRecDepth 4000 in
theorem ok_X12_crowd_75 {p q : Nat} {I : pI} {J : pJ} {a1 : Int32} {a2 : Int32} {Q : pQ} {d : Nat} (hd : 9 ≤ d) (h : zwp (f_X12_crowd a1 a2 (I 80) (I 75 6) (I 75 53) (I 75 3) (I 75 7) (I 75 8) (I 79) (I 75 5) (I 97) (I 94) (I 91) (I 75 2) (I 75 0) (I 93) (I 76) (I 77) (I 75 1)) (fun w => match w with | (r, o0, o1, o2, o3, o4) => Q (.inl (some (.int r))) (zS p q I [(75, some 0, fun _ => o3), (91, none, o2), (93, none, o4), (94, none, o1), (97, none, o0)] J []))) : pm_call M cost zext d 235 [.ref 75, .int a1, .int a2] (pm_st 108 (shp p q) I J) Q := by
  obtain ⟨d, rfl⟩ := zd1 hd rfl
  have hc := pm_call_m (M := M) (cost := cost) zext_m d
  refine z_in (L := [(75, some 0, fun _ => (I 75 0)), (91, none, (I 91)), (93, none, (I 93)), (94, none, (I 94)), (97, none, (I 97))]) (K := []) (ls := [some (.ref 75), some (.int a1), some (.int a2), none]) zmt_235 zco_235 rfl rfl (zid_s (zid_a (zid_a (zid_a (zid_a zid_n))))) zid_n ?_
  delta f_X12_crowd at h
  refine g_aload_n (pc' := 1)  hc rfl rfl rfl rfl ?_
  refine g_iconst (pc' := 2) (v := (0 : Int32)) hc rfl zki_0 rfl ?_
  refine z_putI (pc' := 5) (L' := [(75, some 0, fun _ => (0 : Int32)), (91, none, (I 91)), (93, none, (I 93)), (94, none, (I 94)), (97, none, (I 97))]) hc rfl rfl rfl sh_75 rfl zft_12_0 rfl (fun h => Bool.noConfusion h) rfl rfl rfl ?_
  refine g_aload_n (pc' := 6)  hc rfl rfl rfl rfl ?_
  refine g_iload_n (pc' := 7)  hc rfl rfl rfl ?_
  refine g_iconst (pc' := 8) (v := (1 : Int32)) hc rfl zki_1 rfl ?_
  refine z_virt (as := [.int a2, .int (1 : Int32)]) (a := 75) (r := []) hc rfl rfl rfl rfl sh_75 rfl zco_218 rfl rfl rfl ?_
  refine ok_X12_isWhat_75 (zdp hd rfl) (zwp_mono (zwp_bind h) ?_)
  rintro ⟨r2, o1⟩ h
  refine z_po (pc' := 11) (st' := [.int r2]) (v := (some (.int r2))) (L' := [(75, some 0, fun _ => o1), (91, none, (I 91)), (93, none, (I 93)), (94, none, (I 94)), (97, none, (I 97))]) (K' := []) zco_218 rfl rfl rfl rfl rfl rfl rfl rfl ?_
  refine g_if_eq (pc' := 14) hc rfl rfl (fun hx => ?_) (fun hx => ?_)
  · replace h := zwp_t h hx
    refine g_iconst (pc' := 25) (v := (0 : Int32)) hc rfl zki_0 rfl ?_
    replace h := zws h
    exact g_ireturn hc rfl rfl rfl (fun _ => ⟨rfl, rfl⟩) h
  · replace h := zwp_f h hx
    refine g_aload_n (pc' := 15)  hc rfl rfl rfl rfl ?_
    refine g_iload_n (pc' := 16)  hc rfl rfl rfl ?_
    refine g_iconst (pc' := 17) (v := (0 : Int32)) hc rfl zki_0 rfl ?_
    refine g_iconst (pc' := 18) (v := (2 : Int32)) hc rfl zki_2 rfl ?_
    refine z_virt (as := [.int a1, .int (0 : Int32), .int (2 : Int32)]) (a := 75) (r := []) hc rfl rfl rfl rfl sh_75 rfl zco_219 rfl rfl rfl ?_
    refine ok_X12_isSoon_75 (zdp hd rfl) (zwp_mono (zwp_bind h) ?_)
    rintro ⟨r4, o3⟩ h
    refine z_po (pc' := 21) (st' := [.int r4]) (v := (some (.int r4))) (L' := [(75, some 0, fun _ => o3), (91, none, (I 91)), (93, none, (I 93)), (94, none, (I 94)), (97, none, (I 97))]) (K' := []) zco_219 rfl rfl rfl rfl rfl rfl rfl rfl ?_
    refine g_if_ne (pc' := 24) hc rfl rfl (fun hx => ?_) (fun hx => ?_)
    · replace h := zwp_f h hx
      refine g_aload_n (pc' := 27)  hc rfl rfl rfl rfl ?_
      refine g_iload_n (pc' := 28)  hc rfl rfl rfl ?_
      refine z_virt (as := [.int a1]) (a := 75) (r := []) hc rfl rfl rfl rfl sh_75 rfl zco_228 rfl rfl rfl ?_
      refine ok_X12_goesTo_75 (zdp hd rfl) (zwp_mono (zwp_bind h) ?_)
      rintro ⟨o5, o6, o7⟩ h
      refine z_po (pc' := 31) (st' := []) (v := none) (L' := [(75, some 0, fun _ => o3), (91, none, o6), (93, none, o7), (94, none, o5), (97, none, (I 97))]) (K' := []) zco_228 rfl rfl rfl rfl rfl rfl rfl rfl ?_
      refine g_aload_n (pc' := 32)  hc rfl rfl rfl rfl ?_
      refine z_virt (as := []) (a := 75) (r := []) hc rfl rfl rfl rfl sh_75 rfl zco_233 rfl rfl rfl ?_
      refine ok_X12_clears_75 (zdp hd rfl) (zwp_mono (zwp_bind h) ?_)
      rintro o8 h
      refine z_po (pc' := 35) (st' := []) (v := none) (L' := [(75, some 0, fun _ => o3), (91, none, o6), (93, none, o7), (94, none, o5), (97, none, o8)]) (K' := []) zco_233 rfl rfl rfl rfl rfl rfl rfl rfl ?_
      refine g_aload_n (pc' := 36)  hc rfl rfl rfl rfl ?_
      refine z_virt (as := []) (a := 75) (r := []) hc rfl rfl rfl rfl sh_75 rfl zco_234 rfl rfl rfl ?_
      refine ok_X12_marks_75 (zdp hd rfl) (zwp_mono (zwp_bind h) ?_)
      rintro o9 h
      refine z_po (pc' := 39) (st' := []) (v := none) (L' := [(75, some 0, fun _ => o3), (91, none, o6), (93, none, o7), (94, none, o5), (97, none, o9)]) (K' := []) zco_234 rfl rfl rfl rfl rfl rfl rfl rfl ?_
      refine g_aload_n (pc' := 40)  hc rfl rfl rfl rfl ?_
      refine z_virt (as := []) (a := 75) (r := []) hc rfl rfl rfl rfl sh_75 rfl zco_232 rfl rfl rfl ?_
      refine ok_X12_mostOften_75 (zdp hd rfl) (zwp_mono (zwp_bind h) ?_)
      rintro r10 h
      refine z_po (pc' := 43) (st' := [.int r10]) (v := (some (.int r10))) (L' := [(75, some 0, fun _ => o3), (91, none, o6), (93, none, o7), (94, none, o5), (97, none, o9)]) (K' := []) zco_232 rfl rfl rfl rfl rfl rfl rfl rfl ?_
      refine g_istore_n (pc' := 44) (ls1 := [some (.ref 75), some (.int a1), some (.int a2), some (.int r10)]) hc rfl (zlt rfl) rfl rfl ?_
      refine g_iload_n (pc' := 45)  hc rfl rfl rfl ?_
      refine g_iconst (pc' := 46) (v := (1 : Int32)) hc rfl zki_1 rfl ?_
      refine g_icmp_ne (pc' := 49) hc rfl rfl (fun hx => ?_) (fun hx => ?_)
      · replace h := zwp_f h hx
        refine g_iload_n (pc' := 54)  hc rfl rfl rfl ?_
        refine g_iconst (pc' := 55) (v := (-1 : Int32)) hc rfl zki_m1 rfl ?_
        refine g_icmp_ne (pc' := 58) hc rfl rfl (fun hx => ?_) (fun hx => ?_)
        · replace h := zwp_f h hx
          refine g_aload_n (pc' := 63)  hc rfl rfl rfl rfl ?_
          refine z_getR (pc' := 66)  hc rfl rfl rfl sh_75 rfl rfl ?_
          refine g_iload_n (pc' := 67)  hc rfl rfl rfl ?_
          have hb := (zwp_bnd h).1
          replace h := (zwp_bnd h).2
          refine z_iaload (pc' := 68) (v := (o9 r10.toNatClampNeg)) hc rfl rfl sh_97 hb rfl rfl ?_
          replace h := zws h
          exact g_ireturn hc rfl rfl rfl (fun _ => ⟨rfl, rfl⟩) h
        · replace h := zwp_t h hx
          refine g_iconst (pc' := 59) (v := (0 : Int32)) hc rfl zki_0 rfl ?_
          refine g_goto hc rfl ?_
          replace h := zws h
          exact g_ireturn hc rfl rfl rfl (fun _ => ⟨rfl, rfl⟩) h
      · replace h := zwp_t h hx
        refine g_iload_n (pc' := 50)  hc rfl rfl rfl ?_
        refine g_goto hc rfl ?_
        replace h := zws h
        exact g_ireturn hc rfl rfl rfl (fun _ => ⟨rfl, rfl⟩) h
    · replace h := zwp_t h hx
      refine g_iconst (pc' := 25) (v := (0 : Int32)) hc rfl zki_0 rfl ?_
      replace h := zws h
      exact g_ireturn hc rfl rfl rfl (fun _ => ⟨rfl, rfl⟩) h
set_option maxRecDepth 4000 in
theorem ok_X12_areAsNow_75 {p q : Nat} {I : pI} {J : pJ} {Q : pQ} {d : Nat} (hd : 1 ≤ d) (h : zwp (f_X12_areAsNow (I 75 3) (I 91)) (fun r => Q (.inl (some (.int r))) (zS p q I [] J []))) : pm_call M cost zext d 236 [.ref 75] (pm_st 108 (shp p q) I J) Q := by
  obtain ⟨d, rfl⟩ := zd1 hd rfl
  have hc := pm_call_m (M := M) (cost := cost) zext_m d
  refine z_in (L := []) (K := []) (ls := [some (.ref 75), none, none]) zmt_236 zco_236 rfl rfl zid_n zid_n ?_
  delta f_X12_areAsNow at h
  refine g_iconst (pc' := 1) (v := (1 : Int32)) hc rfl zki_1 rfl ?_
  refine g_istore_n (pc' := 2) (ls1 := [some (.ref 75), some (.int (1 : Int32)), none]) hc rfl (zlt rfl) rfl rfl ?_
  refine g_iconst (pc' := 3) (v := (0 : Int32)) hc rfl zki_0 rfl ?_
  refine g_istore_n (pc' := 4) (ls1 := [some (.ref 75), some (.int (1 : Int32)), some (.int (0 : Int32))]) hc rfl (zlt rfl) rfl rfl ?_
  refine zjn (G := (fun (y3 : Int32) => ∀ z4 : Option Value, znl z4 = true → pm_ev C_X12_areAsNow (d + 1) (pm_call M cost zext d) cost (false, false) 108 0 0 Q 48 [some (.ref 75), some (.int y3), z4] [] 0 0 (zS p q I [] J []))) (zwp_bind h) ?_ (fun h => ?_)
  · rintro y3 h z4 hz4
    refine g_iload_n (pc' := 49)  hc rfl rfl rfl ?_
    have hz := (zwp_bol h).1
    replace h := (zwp_bol h).2
    replace h := zws h
    exact g_ireturn hc rfl rfl hz (fun _ => ⟨rfl, rfl⟩) h
  refine zitr_ev (G := (fun (g : Int32 × Int32) => match g with | (x1, x2) => pm_ev C_X12_areAsNow (d + 1) (pm_call M cost zext d) cost (false, false) 108 0 0 Q 4 [some (.ref 75), some (.int x1), some (.int x2)] [] 0 0 (zS p q I [] J []))) ?_ zFU ((1 : Int32), (0 : Int32)) h
  rintro ⟨x1, x2⟩ h
  refine g_iload_n (pc' := 5)  hc rfl rfl rfl ?_
  refine g_aload_n (pc' := 6)  hc rfl rfl rfl rfl ?_
  refine z_getI (pc' := 9) (v := (I 75 3)) hc rfl rfl rfl sh_75 rfl rfl rfl ?_
  refine g_icmp_ge (pc' := 12) hc rfl rfl (fun hx => ?_) (fun hx => ?_)
  · replace h := zwp_t h hx
    replace h := zwp_r h
    exact h (some (.int x2)) rfl
  · replace h := zwp_f h hx
    refine g_iload_n (pc' := 13)  hc rfl rfl rfl ?_
    refine zjn (G := (fun (j5 : Int32) => pm_ev C_X12_areAsNow (d + 1) (pm_call M cost zext d) cost (false, false) 108 0 0 Q 41 [some (.ref 75), some (.int x1), some (.int x2)] [.int j5] 0 0 (zS p q I [] J []))) (zwp_bind h) ?_ (fun h => ?_)
    · rintro j5 h
      refine g_istore_n (pc' := 42) (ls1 := [some (.ref 75), some (.int j5), some (.int x2)]) hc rfl (zlt rfl) rfl rfl ?_
      refine g_iinc (pc' := 45) (ls1 := [some (.ref 75), some (.int j5), some (.int (x2 + (1 : Int32)))]) hc rfl rfl zki_1 (zlt rfl) rfl rfl ?_
      refine g_goto hc rfl ?_
      replace h := zwp_l h
      exact h
    refine g_if_eq (pc' := 16) hc rfl rfl (fun hx => ?_) (fun hx => ?_)
    · replace h := zwp_t h hx
      refine g_iconst (pc' := 41) (v := (0 : Int32)) hc rfl zki_0 rfl ?_
      replace h := zws h
      exact h
    · replace h := zwp_f h hx
      refine g_aload_n (pc' := 17)  hc rfl rfl rfl rfl ?_
      refine z_getR (pc' := 20)  hc rfl rfl rfl sh_75 rfl rfl ?_
      refine g_bipush (pc' := 22) (v := (71 : Int32)) hc rfl zkb_71 rfl ?_
      refine g_iload_n (pc' := 23)  hc rfl rfl rfl ?_
      refine g_iadd (pc' := 24)  hc rfl rfl ?_
      have hb := (zwp_bnd h).1
      replace h := (zwp_bnd h).2
      refine z_iaload (pc' := 25) (v := (((I 91)) ((71 : Int32) + x2).toNatClampNeg)) hc rfl rfl sh_91 hb rfl rfl ?_
      refine g_aload_n (pc' := 26)  hc rfl rfl rfl rfl ?_
      refine z_getR (pc' := 29)  hc rfl rfl rfl sh_75 rfl rfl ?_
      refine g_iconst (pc' := 30) (v := (1 : Int32)) hc rfl zki_1 rfl ?_
      refine g_iload_n (pc' := 31)  hc rfl rfl rfl ?_
      refine g_iadd (pc' := 32)  hc rfl rfl ?_
      have hb := (zwp_bnd h).1
      replace h := (zwp_bnd h).2
      refine z_iaload (pc' := 33) (v := (((I 91)) ((1 : Int32) + x2).toNatClampNeg)) hc rfl rfl sh_91 hb rfl rfl ?_
      refine g_icmp_ne (pc' := 36) hc rfl rfl (fun hx => ?_) (fun hx => ?_)
      · replace h := zwp_f h hx
        refine g_iconst (pc' := 41) (v := (0 : Int32)) hc rfl zki_0 rfl ?_
        replace h := zws h
        exact h
      · replace h := zwp_t h hx
        refine g_iconst (pc' := 37) (v := (1 : Int32)) hc rfl zki_1 rfl ?_
        refine g_goto hc rfl ?_
        replace h := zws h
        exact h
set_option maxRecDepth 4000 in
theorem ok_X12_round_75 {p q : Nat} {I : pI} {J : pJ} {Q : pQ} {d : Nat} (hd : 7 ≤ d) (h : zwp (f_X12_round (I 80) (I 75 6) (I 75 53) (I 75 3) (I 75 7) (I 75 8) (I 79) (I 75 5) (I 94) (I 91) (I 75 2) (I 75 0) (I 93) (I 76) (I 77) (I 75 1)) (fun w => match w with | (r, o0, o1, o2, o3) => Q (.inl (some (.int r))) (zS p q I [(75, some 0, fun _ => o2), (91, none, o1), (93, none, o3), (94, none, o0)] J []))) : pm_call M cost zext d 237 [.ref 75] (pm_st 108 (shp p q) I J) Q := by
  obtain ⟨d, rfl⟩ := zd1 hd rfl
  have hc := pm_call_m (M := M) (cost := cost) zext_m d
  refine z_in (L := [(75, some 0, fun _ => (I 75 0)), (91, none, (I 91)), (93, none, (I 93)), (94, none, (I 94))]) (K := []) (ls := [some (.ref 75), none]) zmt_237 zco_237 rfl rfl (zid_s (zid_a (zid_a (zid_a zid_n)))) zid_n ?_
  delta f_X12_round at h
  refine g_aload_n (pc' := 1)  hc rfl rfl rfl rfl ?_
  refine g_iconst (pc' := 2) (v := (0 : Int32)) hc rfl zki_0 rfl ?_
  refine z_putI (pc' := 5) (L' := [(75, some 0, fun _ => (0 : Int32)), (91, none, (I 91)), (93, none, (I 93)), (94, none, (I 94))]) hc rfl rfl rfl sh_75 rfl zft_12_0 rfl (fun h => Bool.noConfusion h) rfl rfl rfl ?_
  refine g_aload_n (pc' := 6)  hc rfl rfl rfl rfl ?_
  refine z_virt (as := []) (a := 75) (r := []) hc rfl rfl rfl rfl sh_75 rfl zco_196 rfl rfl rfl ?_
  refine ok_X12_tries_75 (zdp hd rfl) (zwp_mono (zwp_bind h) ?_)
  rintro o1 h
  refine z_po (pc' := 9) (st' := []) (v := none) (L' := [(75, some 0, fun _ => (0 : Int32)), (91, none, o1), (93, none, (I 93)), (94, none, (I 94))]) (K' := []) zco_196 rfl rfl rfl rfl rfl rfl rfl rfl ?_
  refine g_iconst (pc' := 10) (v := (1 : Int32)) hc rfl zki_1 rfl ?_
  refine g_istore_n (pc' := 11) (ls1 := [some (.ref 75), some (.int (1 : Int32))]) hc rfl (zlt rfl) rfl rfl ?_
  refine zjs (G := (fun (g : (Nat → Int32) × (Nat → Int32) × (Nat → Int32)) => match g with | (y7, y8, y9) => ∀ z6 : Option Value, znl z6 = true → pm_ev C_X12_round (d + 1) (pm_call M cost zext d) cost (false, false) 108 0 0 Q 39 [some (.ref 75), z6] [] 0 0 (zS p q I [(75, some 0, fun _ => (0 : Int32)), (91, none, y8), (93, none, y9), (94, none, y7)] J []))) h ?_ (fun h => ?_)
  · rintro ⟨y7, y8, y9⟩ h z6 hz6
    refine g_iconst (pc' := 40) (v := (-1 : Int32)) hc rfl zki_m1 rfl ?_
    replace h := zws h
    exact g_ireturn hc rfl rfl rfl (fun _ => ⟨rfl, rfl⟩) h
  refine zitr_ev (G := (fun (g : Int32 × (Nat → Int32) × (Nat → Int32) × (Nat → Int32)) => match g with | (x2, x3, x4, x5) => pm_ev C_X12_round (d + 1) (pm_call M cost zext d) cost (false, false) 108 0 0 Q 11 [some (.ref 75), some (.int x2)] [] 0 0 (zS p q I [(75, some 0, fun _ => (0 : Int32)), (91, none, x4), (93, none, x5), (94, none, x3)] J []))) ?_ zFU ((1 : Int32), (I 94), o1, (I 93)) h
  rintro ⟨x2, x3, x4, x5⟩ h
  refine g_iload_n (pc' := 12)  hc rfl rfl rfl ?_
  refine g_sipush (pc' := 15) (v := (200 : Int32)) hc rfl zks_200 rfl ?_
  refine g_icmp_gt (pc' := 18) hc rfl rfl (fun hx => ?_) (fun hx => ?_)
  · replace h := zwp_t h hx
    replace h := zwp_r h
    exact h (some (.int x2)) rfl
  · replace h := zwp_f h hx
    refine g_aload_n (pc' := 19)  hc rfl rfl rfl rfl ?_
    refine g_bipush (pc' := 21) (v := (70 : Int32)) hc rfl zkb_70 rfl ?_
    refine z_virt (as := [.int (70 : Int32)]) (a := 75) (r := []) hc rfl rfl rfl rfl sh_75 rfl zco_209 rfl rfl rfl ?_
    refine ok_X12_hourGoes_75 (zdp hd rfl) (zwp_mono (zwp_bind h) ?_)
    rintro ⟨o10, o11, o12⟩ h
    refine z_po (pc' := 24) (st' := []) (v := none) (L' := [(75, some 0, fun _ => (0 : Int32)), (91, none, o11), (93, none, o12), (94, none, o10)]) (K' := []) zco_209 rfl rfl rfl rfl rfl rfl rfl rfl ?_
    refine g_aload_n (pc' := 25)  hc rfl rfl rfl rfl ?_
    refine z_virt (as := []) (a := 75) (r := []) hc rfl rfl rfl rfl sh_75 rfl zco_236 rfl rfl rfl ?_
    refine ok_X12_areAsNow_75 (zdp hd rfl) (zwp_mono (zwp_bind h) ?_)
    rintro r13 h
    refine z_po (pc' := 28) (st' := [.int r13]) (v := (some (.int r13))) (L' := [(75, some 0, fun _ => (0 : Int32)), (91, none, o11), (93, none, o12), (94, none, o10)]) (K' := []) zco_236 rfl rfl rfl rfl rfl rfl rfl rfl ?_
    refine g_if_eq (pc' := 31) hc rfl rfl (fun hx => ?_) (fun hx => ?_)
    · replace h := zwp_t h hx
      refine g_iinc (pc' := 36) (ls1 := [some (.ref 75), some (.int (x2 + (1 : Int32)))]) hc rfl rfl zki_1 (zlt rfl) rfl rfl ?_
      refine g_goto hc rfl ?_
      replace h := zwp_l h
      exact h
    · replace h := zwp_f h hx
      refine g_iload_n (pc' := 32)  hc rfl rfl rfl ?_
      replace h := zws h
      exact g_ireturn hc rfl rfl rfl (fun _ => ⟨rfl, rfl⟩) h
set_option maxRecDepth 4000 in
theorem ok_X12_spread_75 {p q : Nat} {I : pI} {J : pJ} {a1 : Int32} {a2 : Int32} {Q : pQ} {d : Nat} (hd : 7 ≤ d) (h : zwp (f_X12_spread a1 a2 (I 80) (I 75 6) (I 75 53) (I 75 3) (I 75 7) (I 75 8) (I 79) (I 75 5) (I 97) (I 94) (I 91) (I 75 2) (I 75 0) (I 93) (I 76) (I 77) (I 75 1)) (fun w => match w with | (r, o0, o1, o2, o3, o4) => Q (.inl (some (.int r))) (zS p q I [(75, some 0, fun _ => o3), (91, none, o2), (93, none, o4), (94, none, o1), (97, none, o0)] J []))) : pm_call M cost zext d 238 [.ref 75, .int a1, .int a2] (pm_st 108 (shp p q) I J) Q := by
  obtain ⟨d, rfl⟩ := zd1 hd rfl
  have hc := pm_call_m (M := M) (cost := cost) zext_m d
  refine z_in (L := [(75, some 0, fun _ => (I 75 0)), (91, none, (I 91)), (93, none, (I 93)), (94, none, (I 94)), (97, none, (I 97))]) (K := []) (ls := [some (.ref 75), some (.int a1), some (.int a2), none, none]) zmt_238 zco_238 rfl rfl (zid_s (zid_a (zid_a (zid_a (zid_a zid_n))))) zid_n ?_
  delta f_X12_spread at h
  refine g_aload_n (pc' := 1)  hc rfl rfl rfl rfl ?_
  refine g_iconst (pc' := 2) (v := (0 : Int32)) hc rfl zki_0 rfl ?_
  refine z_putI (pc' := 5) (L' := [(75, some 0, fun _ => (0 : Int32)), (91, none, (I 91)), (93, none, (I 93)), (94, none, (I 94)), (97, none, (I 97))]) hc rfl rfl rfl sh_75 rfl zft_12_0 rfl (fun h => Bool.noConfusion h) rfl rfl rfl ?_
  refine g_aload_n (pc' := 6)  hc rfl rfl rfl rfl ?_
  refine g_iload_n (pc' := 7)  hc rfl rfl rfl ?_
  refine z_virt (as := [.int a1]) (a := 75) (r := []) hc rfl rfl rfl rfl sh_75 rfl zco_216 rfl rfl rfl ?_
  refine ok_X12_isFigure_75 (zdp hd rfl) (zwp_mono (zwp_bind h) ?_)
  rintro ⟨r2, o1⟩ h
  refine z_po (pc' := 10) (st' := [.int r2]) (v := (some (.int r2))) (L' := [(75, some 0, fun _ => o1), (91, none, (I 91)), (93, none, (I 93)), (94, none, (I 94)), (97, none, (I 97))]) (K' := []) zco_216 rfl rfl rfl rfl rfl rfl rfl rfl ?_
  refine g_if_eq (pc' := 13) hc rfl rfl (fun hx => ?_) (fun hx => ?_)
  · replace h := zwp_t h hx
    refine g_iconst (pc' := 24) (v := (0 : Int32)) hc rfl zki_0 rfl ?_
    replace h := zws h
    exact g_ireturn hc rfl rfl rfl (fun _ => ⟨rfl, rfl⟩) h
  · replace h := zwp_f h hx
    refine g_aload_n (pc' := 14)  hc rfl rfl rfl rfl ?_
    refine g_iload_n (pc' := 15)  hc rfl rfl rfl ?_
    refine g_iconst (pc' := 16) (v := (0 : Int32)) hc rfl zki_0 rfl ?_
    refine g_iconst (pc' := 17) (v := (2 : Int32)) hc rfl zki_2 rfl ?_
    refine z_virt (as := [.int a2, .int (0 : Int32), .int (2 : Int32)]) (a := 75) (r := []) hc rfl rfl rfl rfl sh_75 rfl zco_219 rfl rfl rfl ?_
    refine ok_X12_isSoon_75 (zdp hd rfl) (zwp_mono (zwp_bind h) ?_)
    rintro ⟨r4, o3⟩ h
    refine z_po (pc' := 20) (st' := [.int r4]) (v := (some (.int r4))) (L' := [(75, some 0, fun _ => o3), (91, none, (I 91)), (93, none, (I 93)), (94, none, (I 94)), (97, none, (I 97))]) (K' := []) zco_219 rfl rfl rfl rfl rfl rfl rfl rfl ?_
    refine g_if_ne (pc' := 23) hc rfl rfl (fun hx => ?_) (fun hx => ?_)
    · replace h := zwp_f h hx
      refine g_aload_n (pc' := 26)  hc rfl rfl rfl rfl ?_
      refine z_virt (as := []) (a := 75) (r := []) hc rfl rfl rfl rfl sh_75 rfl zco_233 rfl rfl rfl ?_
      refine ok_X12_clears_75 (zdp hd rfl) (zwp_mono (zwp_bind h) ?_)
      rintro o5 h
      refine z_po (pc' := 29) (st' := []) (v := none) (L' := [(75, some 0, fun _ => o3), (91, none, (I 91)), (93, none, (I 93)), (94, none, (I 94)), (97, none, o5)]) (K' := []) zco_233 rfl rfl rfl rfl rfl rfl rfl rfl ?_
      refine g_aload_n (pc' := 30)  hc rfl rfl rfl rfl ?_
      refine z_virt (as := []) (a := 75) (r := []) hc rfl rfl rfl rfl sh_75 rfl zco_196 rfl rfl rfl ?_
      refine ok_X12_tries_75 (zdp hd rfl) (zwp_mono (zwp_bind h) ?_)
      rintro o6 h
      refine z_po (pc' := 33) (st' := []) (v := none) (L' := [(75, some 0, fun _ => o3), (91, none, o6), (93, none, (I 93)), (94, none, (I 94)), (97, none, o5)]) (K' := []) zco_196 rfl rfl rfl rfl rfl rfl rfl rfl ?_
      refine g_iconst (pc' := 34) (v := (0 : Int32)) hc rfl zki_0 rfl ?_
      refine g_istore_n (pc' := 35) (ls1 := [some (.ref 75), some (.int a1), some (.int a2), some (.int (0 : Int32)), none]) hc rfl (zlt rfl) rfl rfl ?_
      refine zjn (G := (fun (g : (Nat → Int32) × (Nat → Int32) × (Nat → Int32) × (Nat → Int32)) => match g with | (y13, y14, y15, y16) => ∀ z12 : Option Value, znl z12 = true → pm_ev C_X12_spread (d + 1) (pm_call M cost zext d) cost (false, false) 108 0 0 Q 67 [some (.ref 75), some (.int a1), some (.int a2), z12, none] [] 0 0 (zS p q I [(75, some 0, fun _ => o3), (91, none, y15), (93, none, y16), (94, none, y14), (97, none, y13)] J []))) (zwp_bind h) ?_ (fun h => ?_)
      · rintro ⟨y13, y14, y15, y16⟩ h z12 hz12
        refine g_iconst (pc' := 68) (v := (0 : Int32)) hc rfl zki_0 rfl ?_
        refine g_istore_n (pc' := 69) (ls1 := [some (.ref 75), some (.int a1), some (.int a2), some (.int (0 : Int32)), none]) hc rfl (zlt rfl) rfl rfl ?_
        refine g_iconst (pc' := 70) (v := (0 : Int32)) hc rfl zki_0 rfl ?_
        refine g_istore (pc' := 72) (ls1 := [some (.ref 75), some (.int a1), some (.int a2), some (.int (0 : Int32)), some (.int (0 : Int32))]) hc rfl (zlt rfl) rfl rfl ?_
        refine zjn (G := (fun (y19 : Int32) => ∀ z20 : Option Value, znl z20 = true → pm_ev C_X12_spread (d + 1) (pm_call M cost zext d) cost (false, false) 108 0 0 Q 95 [some (.ref 75), some (.int a1), some (.int a2), some (.int y19), z20] [] 0 0 (zS p q I [(75, some 0, fun _ => o3), (91, none, y15), (93, none, y16), (94, none, y14), (97, none, y13)] J []))) (zwp_bind h) ?_ (fun h => ?_)
        · rintro y19 h z20 hz20
          refine g_iload_n (pc' := 96)  hc rfl rfl rfl ?_
          replace h := zws h
          exact g_ireturn hc rfl rfl rfl (fun _ => ⟨rfl, rfl⟩) h
        refine zitr_ev (G := (fun (g : Int32 × Int32) => match g with | (x17, x18) => pm_ev C_X12_spread (d + 1) (pm_call M cost zext d) cost (false, false) 108 0 0 Q 72 [some (.ref 75), some (.int a1), some (.int a2), some (.int x17), some (.int x18)] [] 0 0 (zS p q I [(75, some 0, fun _ => o3), (91, none, y15), (93, none, y16), (94, none, y14), (97, none, y13)] J []))) ?_ zFU ((0 : Int32), (0 : Int32)) h
        rintro ⟨x17, x18⟩ h
        refine g_iload (pc' := 74)  hc rfl rfl rfl ?_
        refine g_bipush (pc' := 76) (v := (36 : Int32)) hc rfl zkb_36 rfl ?_
        refine g_icmp_ge (pc' := 79) hc rfl rfl (fun hx => ?_) (fun hx => ?_)
        · replace h := zwp_t h hx
          replace h := zwp_r h
          exact h (some (.int x18)) rfl
        · replace h := zwp_f h hx
          refine g_iload_n (pc' := 80)  hc rfl rfl rfl ?_
          refine g_aload_n (pc' := 81)  hc rfl rfl rfl rfl ?_
          refine z_getR (pc' := 84)  hc rfl rfl rfl sh_75 rfl rfl ?_
          refine g_iload (pc' := 86)  hc rfl rfl rfl ?_
          have hb := (zwp_bnd h).1
          replace h := (zwp_bnd h).2
          refine z_iaload (pc' := 87) (v := (y13 x18.toNatClampNeg)) hc rfl rfl sh_97 hb rfl rfl ?_
          refine g_iadd (pc' := 88)  hc rfl rfl ?_
          refine g_istore_n (pc' := 89) (ls1 := [some (.ref 75), some (.int a1), some (.int a2), some (.int (x17 + (y13 x18.toNatClampNeg))), some (.int x18)]) hc rfl (zlt rfl) rfl rfl ?_
          refine g_iinc (pc' := 92) (ls1 := [some (.ref 75), some (.int a1), some (.int a2), some (.int (x17 + (y13 x18.toNatClampNeg))), some (.int (x18 + (1 : Int32)))]) hc rfl rfl zki_1 (zlt rfl) rfl rfl ?_
          refine g_goto hc rfl ?_
          replace h := zwp_l h
          exact h
      refine zitr_ev (G := (fun (g : Int32 × (Nat → Int32) × (Nat → Int32) × (Nat → Int32) × (Nat → Int32)) => match g with | (x7, x8, x9, x10, x11) => pm_ev C_X12_spread (d + 1) (pm_call M cost zext d) cost (false, false) 108 0 0 Q 35 [some (.ref 75), some (.int a1), some (.int a2), some (.int x7), none] [] 0 0 (zS p q I [(75, some 0, fun _ => o3), (91, none, x10), (93, none, x11), (94, none, x9), (97, none, x8)] J []))) ?_ zFU ((0 : Int32), o5, (I 94), o6, (I 93)) h
      rintro ⟨x7, x8, x9, x10, x11⟩ h
      refine g_iload_n (pc' := 36)  hc rfl rfl rfl ?_
      refine g_iload_n (pc' := 37)  hc rfl rfl rfl ?_
      refine g_icmp_gt (pc' := 40) hc rfl rfl (fun hx => ?_) (fun hx => ?_)
      · replace h := zwp_t h hx
        replace h := zwp_r h
        exact h (some (.int x7)) rfl
      · replace h := zwp_f h hx
        refine g_aload_n (pc' := 41)  hc rfl rfl rfl rfl ?_
        refine z_getR (pc' := 44)  hc rfl rfl rfl sh_75 rfl rfl ?_
        refine g_aload_n (pc' := 45)  hc rfl rfl rfl rfl ?_
        refine z_getR (pc' := 48)  hc rfl rfl rfl sh_75 rfl rfl ?_
        refine g_bipush (pc' := 50) (v := (71 : Int32)) hc rfl zkb_71 rfl ?_
        refine g_iload_n (pc' := 51)  hc rfl rfl rfl ?_
        refine g_iadd (pc' := 52)  hc rfl rfl ?_
        have hb := (zwp_bnd h).1
        replace h := (zwp_bnd h).2
        refine z_iaload (pc' := 53) (v := (x10 ((71 : Int32) + a1).toNatClampNeg)) hc rfl rfl sh_91 hb rfl rfl ?_
        refine g_iconst (pc' := 54) (v := (1 : Int32)) hc rfl zki_1 rfl ?_
        have hb := (zwp_bnd h).1
        replace h := (zwp_bnd h).2
        refine z_iastore (pc' := 55) (g := x8) (L' := [(75, some 0, fun _ => o3), (91, none, x10), (93, none, x11), (94, none, x9), (97, none, (upd x8 (x10 ((71 : Int32) + a1).toNatClampNeg).toNatClampNeg (1 : Int32)))]) hc rfl rfl sh_97 hb rfl rfl rfl rfl ?_
        refine g_aload_n (pc' := 56)  hc rfl rfl rfl rfl ?_
        refine g_bipush (pc' := 58) (v := (70 : Int32)) hc rfl zkb_70 rfl ?_
        refine z_virt (as := [.int (70 : Int32)]) (a := 75) (r := []) hc rfl rfl rfl rfl sh_75 rfl zco_209 rfl rfl rfl ?_
        refine ok_X12_hourGoes_75 (zdp hd rfl) (zwp_mono (zwp_bind h) ?_)
        rintro ⟨o21, o22, o23⟩ h
        refine z_po (pc' := 61) (st' := []) (v := none) (L' := [(75, some 0, fun _ => o3), (91, none, o22), (93, none, o23), (94, none, o21), (97, none, (upd x8 (x10 ((71 : Int32) + a1).toNatClampNeg).toNatClampNeg (1 : Int32)))]) (K' := []) zco_209 rfl rfl rfl rfl rfl rfl rfl rfl ?_
        refine g_iinc (pc' := 64) (ls1 := [some (.ref 75), some (.int a1), some (.int a2), some (.int (x7 + (1 : Int32))), none]) hc rfl rfl zki_1 (zlt rfl) rfl rfl ?_
        refine g_goto hc rfl ?_
        replace h := zwp_l h
        exact h
    · replace h := zwp_t h hx
      refine g_iconst (pc' := 24) (v := (0 : Int32)) hc rfl zki_0 rfl ?_
      replace h := zws h
      exact g_ireturn hc rfl rfl rfl (fun _ => ⟨rfl, rfl⟩) h
set_option maxRecDepth 4000 in
theorem ok_X12_later_75 {p q : Nat} {I : pI} {J : pJ} {a1 : Int32} {a2 : Int32} {Q : pQ} {d : Nat} (hd : 7 ≤ d) (h : zwp (f_X12_later a1 a2 (I 80) (I 75 6) (I 75 53) (I 75 3) (I 75 7) (I 75 8) (I 79) (I 75 5) (I 97) (I 94) (I 91) (I 75 2) (I 75 0) (I 93) (I 76) (I 77) (I 75 1)) (fun w => match w with | (r, o0, o1, o2, o3, o4) => Q (.inl (some (.int r))) (zS p q I [(75, some 0, fun _ => o3), (91, none, o2), (93, none, o4), (94, none, o1), (97, none, o0)] J []))) : pm_call M cost zext d 239 [.ref 75, .int a1, .int a2] (pm_st 108 (shp p q) I J) Q := by
  obtain ⟨d, rfl⟩ := zd1 hd rfl
  have hc := pm_call_m (M := M) (cost := cost) zext_m d
  refine z_in (L := [(75, some 0, fun _ => (I 75 0)), (91, none, (I 91)), (93, none, (I 93)), (94, none, (I 94)), (97, none, (I 97))]) (K := []) (ls := [some (.ref 75), some (.int a1), some (.int a2), none, none, none, none]) zmt_239 zco_239 rfl rfl (zid_s (zid_a (zid_a (zid_a (zid_a zid_n))))) zid_n ?_
  delta f_X12_later at h
  refine g_aload_n (pc' := 1)  hc rfl rfl rfl rfl ?_
  refine g_iconst (pc' := 2) (v := (0 : Int32)) hc rfl zki_0 rfl ?_
  refine z_putI (pc' := 5) (L' := [(75, some 0, fun _ => (0 : Int32)), (91, none, (I 91)), (93, none, (I 93)), (94, none, (I 94)), (97, none, (I 97))]) hc rfl rfl rfl sh_75 rfl zft_12_0 rfl (fun h => Bool.noConfusion h) rfl rfl rfl ?_
  refine g_aload_n (pc' := 6)  hc rfl rfl rfl rfl ?_
  refine g_iload_n (pc' := 7)  hc rfl rfl rfl ?_
  refine g_iconst (pc' := 8) (v := (3 : Int32)) hc rfl zki_3 rfl ?_
  refine z_virt (as := [.int a2, .int (3 : Int32)]) (a := 75) (r := []) hc rfl rfl rfl rfl sh_75 rfl zco_218 rfl rfl rfl ?_
  refine ok_X12_isWhat_75 (zdp hd rfl) (zwp_mono (zwp_bind h) ?_)
  rintro ⟨r2, o1⟩ h
  refine z_po (pc' := 11) (st' := [.int r2]) (v := (some (.int r2))) (L' := [(75, some 0, fun _ => o1), (91, none, (I 91)), (93, none, (I 93)), (94, none, (I 94)), (97, none, (I 97))]) (K' := []) zco_218 rfl rfl rfl rfl rfl rfl rfl rfl ?_
  refine g_if_eq (pc' := 14) hc rfl rfl (fun hx => ?_) (fun hx => ?_)
  · replace h := zwp_t h hx
    refine g_iconst (pc' := 33) (v := (0 : Int32)) hc rfl zki_0 rfl ?_
    replace h := zws h
    exact g_ireturn hc rfl rfl rfl (fun _ => ⟨rfl, rfl⟩) h
  · replace h := zwp_f h hx
    refine g_aload_n (pc' := 15)  hc rfl rfl rfl rfl ?_
    refine g_iload_n (pc' := 16)  hc rfl rfl rfl ?_
    refine g_iload_n (pc' := 17)  hc rfl rfl rfl ?_
    refine zjn (G := (fun (j3 : Int32) => pm_ev C_X12_later (d + 1) (pm_call M cost zext d) cost (false, false) 108 0 0 Q 25 [some (.ref 75), some (.int a1), some (.int a2), none, none, none, none] [.int j3, .int a1, .ref 75] 0 0 (zS p q I [(75, some 0, fun _ => o1), (91, none, (I 91)), (93, none, (I 93)), (94, none, (I 94)), (97, none, (I 97))] J []))) (zwp_bind h) ?_ (fun h => ?_)
    · rintro j3 h
      refine g_iconst (pc' := 26) (v := (2 : Int32)) hc rfl zki_2 rfl ?_
      refine z_virt (as := [.int a1, .int j3, .int (2 : Int32)]) (a := 75) (r := []) hc rfl rfl rfl rfl sh_75 rfl zco_219 rfl rfl rfl ?_
      refine ok_X12_isSoon_75 (zdp hd rfl) (zwp_mono (zwp_bind h) ?_)
      rintro ⟨r5, o4⟩ h
      refine z_po (pc' := 29) (st' := [.int r5]) (v := (some (.int r5))) (L' := [(75, some 0, fun _ => o4), (91, none, (I 91)), (93, none, (I 93)), (94, none, (I 94)), (97, none, (I 97))]) (K' := []) zco_219 rfl rfl rfl rfl rfl rfl rfl rfl ?_
      refine g_if_ne (pc' := 32) hc rfl rfl (fun hx => ?_) (fun hx => ?_)
      · replace h := zwp_f h hx
        refine g_aload_n (pc' := 35)  hc rfl rfl rfl rfl ?_
        refine z_virt (as := []) (a := 75) (r := []) hc rfl rfl rfl rfl sh_75 rfl zco_233 rfl rfl rfl ?_
        refine ok_X12_clears_75 (zdp hd rfl) (zwp_mono (zwp_bind h) ?_)
        rintro o6 h
        refine z_po (pc' := 38) (st' := []) (v := none) (L' := [(75, some 0, fun _ => o4), (91, none, (I 91)), (93, none, (I 93)), (94, none, (I 94)), (97, none, o6)]) (K' := []) zco_233 rfl rfl rfl rfl rfl rfl rfl rfl ?_
        refine g_aload_n (pc' := 39)  hc rfl rfl rfl rfl ?_
        refine z_virt (as := []) (a := 75) (r := []) hc rfl rfl rfl rfl sh_75 rfl zco_196 rfl rfl rfl ?_
        refine ok_X12_tries_75 (zdp hd rfl) (zwp_mono (zwp_bind h) ?_)
        rintro o7 h
        refine z_po (pc' := 42) (st' := []) (v := none) (L' := [(75, some 0, fun _ => o4), (91, none, o7), (93, none, (I 93)), (94, none, (I 94)), (97, none, o6)]) (K' := []) zco_196 rfl rfl rfl rfl rfl rfl rfl rfl ?_
        refine g_iconst (pc' := 43) (v := (1 : Int32)) hc rfl zki_1 rfl ?_
        refine g_aload_n (pc' := 44)  hc rfl rfl rfl rfl ?_
        refine z_getI (pc' := 47) (v := (I 75 3)) hc rfl rfl rfl sh_75 rfl rfl rfl ?_
        refine g_ishl (pc' := 48)  hc rfl rfl ?_
        refine g_iconst (pc' := 49) (v := (1 : Int32)) hc rfl zki_1 rfl ?_
        refine g_isub (pc' := 50)  hc rfl rfl ?_
        refine g_istore_n (pc' := 51) (ls1 := [some (.ref 75), some (.int a1), some (.int a2), some (.int (((1 : Int32) <<< (((I 75 3)) &&& 31)) - (1 : Int32))), none, none, none]) hc rfl (zlt rfl) rfl rfl ?_
        refine g_iload_n (pc' := 52)  hc rfl rfl rfl ?_
        refine g_istore (pc' := 54) (ls1 := [some (.ref 75), some (.int a1), some (.int a2), some (.int (((1 : Int32) <<< (((I 75 3)) &&& 31)) - (1 : Int32))), some (.int (((1 : Int32) <<< (((I 75 3)) &&& 31)) - (1 : Int32))), none, none]) hc rfl (zlt rfl) rfl rfl ?_
        refine g_iconst (pc' := 55) (v := (0 : Int32)) hc rfl zki_0 rfl ?_
        refine g_istore (pc' := 57) (ls1 := [some (.ref 75), some (.int a1), some (.int a2), some (.int (((1 : Int32) <<< (((I 75 3)) &&& 31)) - (1 : Int32))), some (.int (((1 : Int32) <<< (((I 75 3)) &&& 31)) - (1 : Int32))), some (.int (0 : Int32)), none]) hc rfl (zlt rfl) rfl rfl ?_
        refine zjn (G := (fun (g : Int32 × Int32 × (Nat → Int32) × (Nat → Int32) × (Nat → Int32) × (Nat → Int32)) => match g with | (y16, y17, y20, y21, y22, y23) => ∀ z18 : Option Value, znl z18 = true → ∀ z19 : Option Value, znl z19 = true → pm_ev C_X12_later (d + 1) (pm_call M cost zext d) cost (false, false) 108 0 0 Q 155 [some (.ref 75), some (.int a1), some (.int a2), some (.int y16), some (.int y17), z18, z19] [] 0 0 (zS p q I [(75, some 0, fun _ => o4), (91, none, y22), (93, none, y23), (94, none, y21), (97, none, y20)] J []))) (zwp_bind h) ?_ (fun h => ?_)
        · rintro ⟨y16, y17, y20, y21, y22, y23⟩ h z18 hz18 z19 hz19
          refine g_iconst (pc' := 156) (v := (-1 : Int32)) hc rfl zki_m1 rfl ?_
          refine g_istore (pc' := 158) (ls1 := [some (.ref 75), some (.int a1), some (.int a2), some (.int y16), some (.int y17), some (.int (-1 : Int32)), z19]) hc rfl (zlt rfl) rfl rfl ?_
          refine g_iconst (pc' := 159) (v := (0 : Int32)) hc rfl zki_0 rfl ?_
          refine g_istore (pc' := 161) (ls1 := [some (.ref 75), some (.int a1), some (.int a2), some (.int y16), some (.int y17), some (.int (-1 : Int32)), some (.int (0 : Int32))]) hc rfl (zlt rfl) rfl rfl ?_
          refine zjn (G := (fun (y26 : Int32) => ∀ z27 : Option Value, znl z27 = true → pm_ev C_X12_later (d + 1) (pm_call M cost zext d) cost (false, false) 108 0 0 Q 213 [some (.ref 75), some (.int a1), some (.int a2), some (.int y16), some (.int y17), some (.int y26), z27] [] 0 0 (zS p q I [(75, some 0, fun _ => o4), (91, none, y22), (93, none, y23), (94, none, y21), (97, none, y20)] J []))) (zwp_bind h) ?_ (fun h => ?_)
          · rintro y26 h z27 hz27
            refine g_iload_n (pc' := 214)  hc rfl rfl rfl ?_
            refine g_if_ne (pc' := 217) hc rfl rfl (fun hx => ?_) (fun hx => ?_)
            · replace h := zwp_f h hx
              refine g_iload_n (pc' := 225)  hc rfl rfl rfl ?_
              refine g_iconst (pc' := 226) (v := (1 : Int32)) hc rfl zki_1 rfl ?_
              refine g_icmp_ne (pc' := 229) hc rfl rfl (fun hx => ?_) (fun hx => ?_)
              · replace h := zwp_f h hx
                refine g_iload_n (pc' := 235)  hc rfl rfl rfl ?_
                refine g_iconst (pc' := 236) (v := (2 : Int32)) hc rfl zki_2 rfl ?_
                refine g_icmp_ne (pc' := 239) hc rfl rfl (fun hx => ?_) (fun hx => ?_)
                · replace h := zwp_f h hx
                  refine g_iload (pc' := 245)  hc rfl rfl rfl ?_
                  replace h := zws h
                  exact g_ireturn hc rfl rfl rfl (fun _ => ⟨rfl, rfl⟩) h
                · replace h := zwp_t h hx
                  refine g_iload_n (pc' := 240)  hc rfl rfl rfl ?_
                  refine g_goto hc rfl ?_
                  replace h := zws h
                  exact g_ireturn hc rfl rfl rfl (fun _ => ⟨rfl, rfl⟩) h
              · replace h := zwp_t h hx
                refine g_iload (pc' := 231)  hc rfl rfl rfl ?_
                refine g_goto hc rfl ?_
                replace h := zws h
                exact g_ireturn hc rfl rfl rfl (fun _ => ⟨rfl, rfl⟩) h
            · replace h := zwp_t h hx
              refine g_aload_n (pc' := 218)  hc rfl rfl rfl rfl ?_
              refine z_virt (as := []) (a := 75) (r := []) hc rfl rfl rfl rfl sh_75 rfl zco_232 rfl rfl rfl ?_
              refine ok_X12_mostOften_75 (zdp hd rfl) (zwp_mono (zwp_bind h) ?_)
              rintro r28 h
              refine z_po (pc' := 221) (st' := [.int r28]) (v := (some (.int r28))) (L' := [(75, some 0, fun _ => o4), (91, none, y22), (93, none, y23), (94, none, y21), (97, none, y20)]) (K' := []) zco_232 rfl rfl rfl rfl rfl rfl rfl rfl ?_
              refine g_goto hc rfl ?_
              replace h := zws h
              exact g_ireturn hc rfl rfl rfl (fun _ => ⟨rfl, rfl⟩) h
          refine zitr_ev (G := (fun (g : Int32 × Int32) => match g with | (x24, x25) => pm_ev C_X12_later (d + 1) (pm_call M cost zext d) cost (false, false) 108 0 0 Q 161 [some (.ref 75), some (.int a1), some (.int a2), some (.int y16), some (.int y17), some (.int x24), some (.int x25)] [] 0 0 (zS p q I [(75, some 0, fun _ => o4), (91, none, y22), (93, none, y23), (94, none, y21), (97, none, y20)] J []))) ?_ zFU ((-1 : Int32), (0 : Int32)) h
          rintro ⟨x24, x25⟩ h
          refine g_iload (pc' := 163)  hc rfl rfl rfl ?_
          refine g_aload_n (pc' := 164)  hc rfl rfl rfl rfl ?_
          refine z_getI (pc' := 167) (v := (I 75 3)) hc rfl rfl rfl sh_75 rfl rfl rfl ?_
          refine g_icmp_ge (pc' := 170) hc rfl rfl (fun hx => ?_) (fun hx => ?_)
          · replace h := zwp_t h hx
            replace h := zwp_r h
            exact h (some (.int x25)) rfl
          · replace h := zwp_f h hx
            refine g_aload_n (pc' := 171)  hc rfl rfl rfl rfl ?_
            refine z_getR (pc' := 174)  hc rfl rfl rfl sh_75 rfl rfl ?_
            refine g_bipush (pc' := 176) (v := (79 : Int32)) hc rfl zkb_79 rfl ?_
            refine g_iload (pc' := 178)  hc rfl rfl rfl ?_
            refine g_iadd (pc' := 179)  hc rfl rfl ?_
            have hb := (zwp_bnd h).1
            replace h := (zwp_bnd h).2
            refine z_iaload (pc' := 180) (v := (y22 ((79 : Int32) + x25).toNatClampNeg)) hc rfl rfl sh_91 hb rfl rfl ?_
            refine g_iload (pc' := 182)  hc rfl rfl rfl ?_
            refine g_iconst (pc' := 183) (v := (-1 : Int32)) hc rfl zki_m1 rfl ?_
            refine zjn (G := (fun (j29 : Int32) => pm_ev C_X12_later (d + 1) (pm_call M cost zext d) cost (false, false) 108 0 0 Q 200 [some (.ref 75), some (.int a1), some (.int a2), some (.int y16), some (.int y17), some (.int x24), some (.int x25)] [.int j29, .int (y22 ((79 : Int32) + x25).toNatClampNeg)] 0 0 (zS p q I [(75, some 0, fun _ => o4), (91, none, y22), (93, none, y23), (94, none, y21), (97, none, y20)] J []))) (zwp_bind h) ?_ (fun h => ?_)
            · rintro j29 h
              refine g_icmp_le (pc' := 203) hc rfl rfl (fun hx => ?_) (fun hx => ?_)
              · replace h := zwp_t h hx
                refine g_iinc (pc' := 210) (ls1 := [some (.ref 75), some (.int a1), some (.int a2), some (.int y16), some (.int y17), some (.int x24), some (.int (x25 + (1 : Int32)))]) hc rfl rfl zki_1 (zlt rfl) rfl rfl ?_
                refine g_goto hc rfl ?_
                replace h := zwp_l h
                exact h
              · replace h := zwp_f h hx
                refine g_iload (pc' := 205)  hc rfl rfl rfl ?_
                refine g_istore (pc' := 207) (ls1 := [some (.ref 75), some (.int a1), some (.int a2), some (.int y16), some (.int y17), some (.int x25), some (.int x25)]) hc rfl (zlt rfl) rfl rfl ?_
                refine g_iinc (pc' := 210) (ls1 := [some (.ref 75), some (.int a1), some (.int a2), some (.int y16), some (.int y17), some (.int x25), some (.int (x25 + (1 : Int32)))]) hc rfl rfl zki_1 (zlt rfl) rfl rfl ?_
                refine g_goto hc rfl ?_
                replace h := zwp_l h
                exact h
            refine g_icmp_ne (pc' := 186) hc rfl rfl (fun hx => ?_) (fun hx => ?_)
            · replace h := zwp_f h hx
              refine g_aload_n (pc' := 191)  hc rfl rfl rfl rfl ?_
              refine z_getR (pc' := 194)  hc rfl rfl rfl sh_75 rfl rfl ?_
              refine g_bipush (pc' := 196) (v := (79 : Int32)) hc rfl zkb_79 rfl ?_
              refine g_iload (pc' := 198)  hc rfl rfl rfl ?_
              refine g_iadd (pc' := 199)  hc rfl rfl ?_
              have hb := (zwp_bnd h).1
              replace h := (zwp_bnd h).2
              refine z_iaload (pc' := 200) (v := (y22 ((79 : Int32) + x24).toNatClampNeg)) hc rfl rfl sh_91 hb rfl rfl ?_
              replace h := zws h
              exact h
            · replace h := zwp_t h hx
              refine g_iconst (pc' := 187) (v := (0 : Int32)) hc rfl zki_0 rfl ?_
              refine g_goto hc rfl ?_
              replace h := zws h
              exact h
        refine zitr_ev (G := (fun (g : Int32 × Int32 × Int32 × (Nat → Int32) × (Nat → Int32) × (Nat → Int32) × (Nat → Int32)) => match g with | (x8, x9, x10, x12, x13, x14, x15) => ∀ z11 : Option Value, znl z11 = true → pm_ev C_X12_later (d + 1) (pm_call M cost zext d) cost (false, false) 108 0 0 Q 57 [some (.ref 75), some (.int a1), some (.int a2), some (.int x8), some (.int x9), some (.int x10), z11] [] 0 0 (zS p q I [(75, some 0, fun _ => o4), (91, none, x14), (93, none, x15), (94, none, x13), (97, none, x12)] J []))) ?_ zFU ((((1 : Int32) <<< (((I 75 3)) &&& 31)) - (1 : Int32)), (((1 : Int32) <<< (((I 75 3)) &&& 31)) - (1 : Int32)), (0 : Int32), o6, (I 94), o7, (I 93)) h none rfl
        rintro ⟨x8, x9, x10, x12, x13, x14, x15⟩ h z11 hz11
        refine g_iload (pc' := 59)  hc rfl rfl rfl ?_
        refine g_iload_n (pc' := 60)  hc rfl rfl rfl ?_
        refine g_icmp_gt (pc' := 63) hc rfl rfl (fun hx => ?_) (fun hx => ?_)
        · replace h := zwp_t h hx
          replace h := zwp_r h
          exact h (some (.int x10)) rfl z11 hz11
        · replace h := zwp_f h hx
          refine g_iload (pc' := 65)  hc rfl rfl rfl ?_
          refine zjn (G := (fun (g : (Nat → Int32) × (Nat → Int32) × (Nat → Int32) × (Nat → Int32)) => match g with | (j30, j31, j32, j33) => pm_ev C_X12_later (d + 1) (pm_call M cost zext d) cost (false, false) 108 0 0 Q 78 [some (.ref 75), some (.int a1), some (.int a2), some (.int x8), some (.int x9), some (.int x10), z11] [] 0 0 (zS p q I [(75, some 0, fun _ => o4), (91, none, j32), (93, none, j33), (94, none, j31), (97, none, j30)] J []))) (zwp_bind h) ?_ (fun h => ?_)
          · rintro ⟨j30, j31, j32, j33⟩ h
            refine g_iconst (pc' := 79) (v := (0 : Int32)) hc rfl zki_0 rfl ?_
            refine g_istore (pc' := 81) (ls1 := [some (.ref 75), some (.int a1), some (.int a2), some (.int x8), some (.int x9), some (.int x10), some (.int (0 : Int32))]) hc rfl (zlt rfl) rfl rfl ?_
            refine zjn (G := (fun (g : Int32 × Int32) => match g with | (y37, y38) => ∀ z39 : Option Value, znl z39 = true → pm_ev C_X12_later (d + 1) (pm_call M cost zext d) cost (false, false) 108 0 0 Q 149 [some (.ref 75), some (.int a1), some (.int a2), some (.int y37), some (.int y38), some (.int x10), z39] [] 0 0 (zS p q I [(75, some 0, fun _ => o4), (91, none, j32), (93, none, j33), (94, none, j31), (97, none, j30)] J []))) (zwp_bind h) ?_ (fun h => ?_)
            · rintro ⟨y37, y38⟩ h z39 hz39
              refine g_iinc (pc' := 152) (ls1 := [some (.ref 75), some (.int a1), some (.int a2), some (.int y37), some (.int y38), some (.int (x10 + (1 : Int32))), z39]) hc rfl rfl zki_1 (zlt rfl) rfl rfl ?_
              refine g_goto hc rfl ?_
              replace h := zwp_l h
              exact h z39 hz39
            refine zitr_ev (G := (fun (g : Int32 × Int32 × Int32) => match g with | (x34, x35, x36) => pm_ev C_X12_later (d + 1) (pm_call M cost zext d) cost (false, false) 108 0 0 Q 81 [some (.ref 75), some (.int a1), some (.int a2), some (.int x34), some (.int x35), some (.int x10), some (.int x36)] [] 0 0 (zS p q I [(75, some 0, fun _ => o4), (91, none, j32), (93, none, j33), (94, none, j31), (97, none, j30)] J []))) ?_ zFU (x8, x9, (0 : Int32)) h
            rintro ⟨x34, x35, x36⟩ h
            refine g_iload (pc' := 83)  hc rfl rfl rfl ?_
            refine g_aload_n (pc' := 84)  hc rfl rfl rfl rfl ?_
            refine z_getI (pc' := 87) (v := (I 75 3)) hc rfl rfl rfl sh_75 rfl rfl rfl ?_
            refine g_icmp_ge (pc' := 90) hc rfl rfl (fun hx => ?_) (fun hx => ?_)
            · replace h := zwp_t h hx
              replace h := zwp_r h
              exact h (some (.int x36)) rfl
            · replace h := zwp_f h hx
              refine g_aload_n (pc' := 91)  hc rfl rfl rfl rfl ?_
              refine g_bipush (pc' := 93) (v := (70 : Int32)) hc rfl zkb_70 rfl ?_
              refine g_iload (pc' := 95)  hc rfl rfl rfl ?_
              refine z_virt (as := [.int (70 : Int32), .int x36]) (a := 75) (r := []) hc rfl rfl rfl rfl sh_75 rfl zco_202 rfl rfl rfl ?_
              refine ok_X12_withIt_75 (zdp hd rfl) (zwp_mono (zwp_bind h) ?_)
              rintro r40 h
              refine z_po (pc' := 98) (st' := [.int r40]) (v := (some (.int r40))) (L' := [(75, some 0, fun _ => o4), (91, none, j32), (93, none, j33), (94, none, j31), (97, none, j30)]) (K' := []) zco_202 rfl rfl rfl rfl rfl rfl rfl rfl ?_
              refine zjn (G := (fun (j41 : Int32) => pm_ev C_X12_later (d + 1) (pm_call M cost zext d) cost (false, false) 108 0 0 Q 110 [some (.ref 75), some (.int a1), some (.int a2), some (.int j41), some (.int x35), some (.int x10), some (.int x36)] [] 0 0 (zS p q I [(75, some 0, fun _ => o4), (91, none, j32), (93, none, j33), (94, none, j31), (97, none, j30)] J []))) (zwp_bind h) ?_ (fun h => ?_)
              · rintro j41 h
                refine g_aload_n (pc' := 111)  hc rfl rfl rfl rfl ?_
                refine z_getR (pc' := 114)  hc rfl rfl rfl sh_75 rfl rfl ?_
                refine g_bipush (pc' := 116) (v := (71 : Int32)) hc rfl zkb_71 rfl ?_
                refine g_iload (pc' := 118)  hc rfl rfl rfl ?_
                refine g_iadd (pc' := 119)  hc rfl rfl ?_
                have hb := (zwp_bnd h).1
                replace h := (zwp_bnd h).2
                refine z_iaload (pc' := 120) (v := (j32 ((71 : Int32) + x36).toNatClampNeg)) hc rfl rfl sh_91 hb rfl rfl ?_
                refine g_aload_n (pc' := 121)  hc rfl rfl rfl rfl ?_
                refine z_getR (pc' := 124)  hc rfl rfl rfl sh_75 rfl rfl ?_
                refine g_iconst (pc' := 125) (v := (1 : Int32)) hc rfl zki_1 rfl ?_
                refine g_iload (pc' := 127)  hc rfl rfl rfl ?_
                refine g_iadd (pc' := 128)  hc rfl rfl ?_
                have hb := (zwp_bnd h).1
                replace h := (zwp_bnd h).2
                refine z_iaload (pc' := 129) (v := (j32 ((1 : Int32) + x36).toNatClampNeg)) hc rfl rfl sh_91 hb rfl rfl ?_
                refine g_icmp_eq (pc' := 132) hc rfl rfl (fun hx => ?_) (fun hx => ?_)
                · replace h := zwp_t h hx
                  refine g_iinc (pc' := 146) (ls1 := [some (.ref 75), some (.int a1), some (.int a2), some (.int j41), some (.int x35), some (.int x10), some (.int (x36 + (1 : Int32)))]) hc rfl rfl zki_1 (zlt rfl) rfl rfl ?_
                  refine g_goto hc rfl ?_
                  replace h := zwp_l h
                  exact h
                · replace h := zwp_f h hx
                  refine g_iload (pc' := 134)  hc rfl rfl rfl ?_
                  refine g_iconst (pc' := 135) (v := (1 : Int32)) hc rfl zki_1 rfl ?_
                  refine g_iload (pc' := 137)  hc rfl rfl rfl ?_
                  refine g_ishl (pc' := 138)  hc rfl rfl ?_
                  refine g_iconst (pc' := 139) (v := (-1 : Int32)) hc rfl zki_m1 rfl ?_
                  refine g_ixor (pc' := 140)  hc rfl rfl ?_
                  refine g_iand (pc' := 141)  hc rfl rfl ?_
                  refine g_istore (pc' := 143) (ls1 := [some (.ref 75), some (.int a1), some (.int a2), some (.int j41), some (.int (x35 &&& (((1 : Int32) <<< (x36 &&& 31)) ^^^ (-1 : Int32)))), some (.int x10), some (.int x36)]) hc rfl (zlt rfl) rfl rfl ?_
                  refine g_iinc (pc' := 146) (ls1 := [some (.ref 75), some (.int a1), some (.int a2), some (.int j41), some (.int (x35 &&& (((1 : Int32) <<< (x36 &&& 31)) ^^^ (-1 : Int32)))), some (.int x10), some (.int (x36 + (1 : Int32)))]) hc rfl rfl zki_1 (zlt rfl) rfl rfl ?_
                  refine g_goto hc rfl ?_
                  replace h := zwp_l h
                  exact h
              refine g_if_le (pc' := 101) hc rfl rfl (fun hx => ?_) (fun hx => ?_)
              · replace h := zwp_t h hx
                replace h := zws h
                exact h
              · replace h := zwp_f h hx
                refine g_iload_n (pc' := 102)  hc rfl rfl rfl ?_
                refine g_iconst (pc' := 103) (v := (1 : Int32)) hc rfl zki_1 rfl ?_
                refine g_iload (pc' := 105)  hc rfl rfl rfl ?_
                refine g_ishl (pc' := 106)  hc rfl rfl ?_
                refine g_iconst (pc' := 107) (v := (-1 : Int32)) hc rfl zki_m1 rfl ?_
                refine g_ixor (pc' := 108)  hc rfl rfl ?_
                refine g_iand (pc' := 109)  hc rfl rfl ?_
                refine g_istore_n (pc' := 110) (ls1 := [some (.ref 75), some (.int a1), some (.int a2), some (.int (x34 &&& (((1 : Int32) <<< (x36 &&& 31)) ^^^ (-1 : Int32)))), some (.int x35), some (.int x10), some (.int x36)]) hc rfl (zlt rfl) rfl rfl ?_
                replace h := zws h
                exact h
          refine g_if_le (pc' := 68) hc rfl rfl (fun hx => ?_) (fun hx => ?_)
          · replace h := zwp_t h hx
            replace h := zws h
            exact h
          · replace h := zwp_f h hx
            refine g_aload_n (pc' := 69)  hc rfl rfl rfl rfl ?_
            refine g_bipush (pc' := 71) (v := (70 : Int32)) hc rfl zkb_70 rfl ?_
            refine z_virt (as := [.int (70 : Int32)]) (a := 75) (r := []) hc rfl rfl rfl rfl sh_75 rfl zco_209 rfl rfl rfl ?_
            refine ok_X12_hourGoes_75 (zdp hd rfl) (zwp_mono (zwp_bind h) ?_)
            rintro ⟨o42, o43, o44⟩ h
            refine z_po (pc' := 74) (st' := []) (v := none) (L' := [(75, some 0, fun _ => o4), (91, none, o43), (93, none, o44), (94, none, o42), (97, none, x12)]) (K' := []) zco_209 rfl rfl rfl rfl rfl rfl rfl rfl ?_
            refine g_aload_n (pc' := 75)  hc rfl rfl rfl rfl ?_
            refine z_virt (as := []) (a := 75) (r := []) hc rfl rfl rfl rfl sh_75 rfl zco_234 rfl rfl rfl ?_
            refine ok_X12_marks_75 (zdp hd rfl) (zwp_mono (zwp_bind h) ?_)
            rintro o45 h
            refine z_po (pc' := 78) (st' := []) (v := none) (L' := [(75, some 0, fun _ => o4), (91, none, o43), (93, none, o44), (94, none, o42), (97, none, o45)]) (K' := []) zco_234 rfl rfl rfl rfl rfl rfl rfl rfl ?_
            replace h := zws h
            exact h
      · replace h := zwp_t h hx
        refine g_iconst (pc' := 33) (v := (0 : Int32)) hc rfl zki_0 rfl ?_
        replace h := zws h
        exact g_ireturn hc rfl rfl rfl (fun _ => ⟨rfl, rfl⟩) h
    refine g_if_ne (pc' := 20) hc rfl rfl (fun hx => ?_) (fun hx => ?_)
    · replace h := zwp_f h hx
      refine g_iconst (pc' := 25) (v := (0 : Int32)) hc rfl zki_0 rfl ?_
      replace h := zws h
      exact h
    · replace h := zwp_t h hx
      refine g_iconst (pc' := 21) (v := (1 : Int32)) hc rfl zki_1 rfl ?_
      refine g_goto hc rfl ?_
      replace h := zws h
      exact h
set_option maxRecDepth 4000 in
theorem ok_X12_together_75 {p q : Nat} {I : pI} {J : pJ} {a1 : Int32} {a2 : Int32} {a3 : Int32} {Q : pQ} {d : Nat} (hd : 7 ≤ d) (h : zwp (f_X12_together a1 a2 a3 (I 80) (I 75 6) (I 75 53) (I 75 3) (I 75 7) (I 75 8) (I 79) (I 75 5) (I 94) (I 91) (I 75 2) (I 75 0) (I 93) (I 76) (I 77) (I 75 1)) (fun w => match w with | (r, o0, o1, o2, o3) => Q (.inl (some (.int r))) (zS p q I [(75, some 0, fun _ => o2), (91, none, o1), (93, none, o3), (94, none, o0)] J []))) : pm_call M cost zext d 240 [.ref 75, .int a1, .int a2, .int a3] (pm_st 108 (shp p q) I J) Q := by
  obtain ⟨d, rfl⟩ := zd1 hd rfl
  have hc := pm_call_m (M := M) (cost := cost) zext_m d
  refine z_in (L := [(75, some 0, fun _ => (I 75 0)), (91, none, (I 91)), (93, none, (I 93)), (94, none, (I 94))]) (K := []) (ls := [some (.ref 75), some (.int a1), some (.int a2), some (.int a3), none, none]) zmt_240 zco_240 rfl rfl (zid_s (zid_a (zid_a (zid_a zid_n)))) zid_n ?_
  delta f_X12_together at h
  refine g_aload_n (pc' := 1)  hc rfl rfl rfl rfl ?_
  refine g_iconst (pc' := 2) (v := (0 : Int32)) hc rfl zki_0 rfl ?_
  refine z_putI (pc' := 5) (L' := [(75, some 0, fun _ => (0 : Int32)), (91, none, (I 91)), (93, none, (I 93)), (94, none, (I 94))]) hc rfl rfl rfl sh_75 rfl zft_12_0 rfl (fun h => Bool.noConfusion h) rfl rfl rfl ?_
  refine g_aload_n (pc' := 6)  hc rfl rfl rfl rfl ?_
  refine g_iload_n (pc' := 7)  hc rfl rfl rfl ?_
  refine z_virt (as := [.int a1]) (a := 75) (r := []) hc rfl rfl rfl rfl sh_75 rfl zco_216 rfl rfl rfl ?_
  refine ok_X12_isFigure_75 (zdp hd rfl) (zwp_mono (zwp_bind h) ?_)
  rintro ⟨r2, o1⟩ h
  refine z_po (pc' := 10) (st' := [.int r2]) (v := (some (.int r2))) (L' := [(75, some 0, fun _ => o1), (91, none, (I 91)), (93, none, (I 93)), (94, none, (I 94))]) (K' := []) zco_216 rfl rfl rfl rfl rfl rfl rfl rfl ?_
  refine g_if_eq (pc' := 13) hc rfl rfl (fun hx => ?_) (fun hx => ?_)
  · replace h := zwp_t h hx
    refine g_iconst (pc' := 32) (v := (0 : Int32)) hc rfl zki_0 rfl ?_
    replace h := zws h
    exact g_ireturn hc rfl rfl rfl (fun _ => ⟨rfl, rfl⟩) h
  · replace h := zwp_f h hx
    refine g_aload_n (pc' := 14)  hc rfl rfl rfl rfl ?_
    refine g_iload_n (pc' := 15)  hc rfl rfl rfl ?_
    refine z_virt (as := [.int a2]) (a := 75) (r := []) hc rfl rfl rfl rfl sh_75 rfl zco_216 rfl rfl rfl ?_
    refine ok_X12_isFigure_75 (zdp hd rfl) (zwp_mono (zwp_bind h) ?_)
    rintro ⟨r4, o3⟩ h
    refine z_po (pc' := 18) (st' := [.int r4]) (v := (some (.int r4))) (L' := [(75, some 0, fun _ => o3), (91, none, (I 91)), (93, none, (I 93)), (94, none, (I 94))]) (K' := []) zco_216 rfl rfl rfl rfl rfl rfl rfl rfl ?_
    refine g_if_eq (pc' := 21) hc rfl rfl (fun hx => ?_) (fun hx => ?_)
    · replace h := zwp_t h hx
      refine g_iconst (pc' := 32) (v := (0 : Int32)) hc rfl zki_0 rfl ?_
      replace h := zws h
      exact g_ireturn hc rfl rfl rfl (fun _ => ⟨rfl, rfl⟩) h
    · replace h := zwp_f h hx
      refine g_aload_n (pc' := 22)  hc rfl rfl rfl rfl ?_
      refine g_iload_n (pc' := 23)  hc rfl rfl rfl ?_
      refine g_iconst (pc' := 24) (v := (1 : Int32)) hc rfl zki_1 rfl ?_
      refine g_iconst (pc' := 25) (v := (2 : Int32)) hc rfl zki_2 rfl ?_
      refine z_virt (as := [.int a3, .int (1 : Int32), .int (2 : Int32)]) (a := 75) (r := []) hc rfl rfl rfl rfl sh_75 rfl zco_219 rfl rfl rfl ?_
      refine ok_X12_isSoon_75 (zdp hd rfl) (zwp_mono (zwp_bind h) ?_)
      rintro ⟨r6, o5⟩ h
      refine z_po (pc' := 28) (st' := [.int r6]) (v := (some (.int r6))) (L' := [(75, some 0, fun _ => o5), (91, none, (I 91)), (93, none, (I 93)), (94, none, (I 94))]) (K' := []) zco_219 rfl rfl rfl rfl rfl rfl rfl rfl ?_
      refine g_if_ne (pc' := 31) hc rfl rfl (fun hx => ?_) (fun hx => ?_)
      · replace h := zwp_f h hx
        refine g_iconst (pc' := 34) (v := (0 : Int32)) hc rfl zki_0 rfl ?_
        refine g_istore (pc' := 36) (ls1 := [some (.ref 75), some (.int a1), some (.int a2), some (.int a3), some (.int (0 : Int32)), none]) hc rfl (zlt rfl) rfl rfl ?_
        refine g_aload_n (pc' := 37)  hc rfl rfl rfl rfl ?_
        refine z_virt (as := []) (a := 75) (r := []) hc rfl rfl rfl rfl sh_75 rfl zco_196 rfl rfl rfl ?_
        refine ok_X12_tries_75 (zdp hd rfl) (zwp_mono (zwp_bind h) ?_)
        rintro o7 h
        refine z_po (pc' := 40) (st' := []) (v := none) (L' := [(75, some 0, fun _ => o5), (91, none, o7), (93, none, (I 93)), (94, none, (I 94))]) (K' := []) zco_196 rfl rfl rfl rfl rfl rfl rfl rfl ?_
        refine g_iconst (pc' := 41) (v := (0 : Int32)) hc rfl zki_0 rfl ?_
        refine g_istore (pc' := 43) (ls1 := [some (.ref 75), some (.int a1), some (.int a2), some (.int a3), some (.int (0 : Int32)), some (.int (0 : Int32))]) hc rfl (zlt rfl) rfl rfl ?_
        refine zjn (G := (fun (g : Int32 × (Nat → Int32) × (Nat → Int32) × (Nat → Int32)) => match g with | (y13, y15, y16, y17) => ∀ z14 : Option Value, znl z14 = true → pm_ev C_X12_together (d + 1) (pm_call M cost zext d) cost (false, false) 108 0 0 Q 92 [some (.ref 75), some (.int a1), some (.int a2), some (.int a3), some (.int y13), z14] [] 0 0 (zS p q I [(75, some 0, fun _ => o5), (91, none, y16), (93, none, y17), (94, none, y15)] J []))) (zwp_bind h) ?_ (fun h => ?_)
        · rintro ⟨y13, y15, y16, y17⟩ h z14 hz14
          refine g_iload (pc' := 94)  hc rfl rfl rfl ?_
          replace h := zws h
          exact g_ireturn hc rfl rfl rfl (fun _ => ⟨rfl, rfl⟩) h
        refine zitr_ev (G := (fun (g : Int32 × Int32 × (Nat → Int32) × (Nat → Int32) × (Nat → Int32)) => match g with | (x8, x9, x10, x11, x12) => pm_ev C_X12_together (d + 1) (pm_call M cost zext d) cost (false, false) 108 0 0 Q 43 [some (.ref 75), some (.int a1), some (.int a2), some (.int a3), some (.int x8), some (.int x9)] [] 0 0 (zS p q I [(75, some 0, fun _ => o5), (91, none, x11), (93, none, x12), (94, none, x10)] J []))) ?_ zFU ((0 : Int32), (0 : Int32), (I 94), o7, (I 93)) h
        rintro ⟨x8, x9, x10, x11, x12⟩ h
        refine g_iload (pc' := 45)  hc rfl rfl rfl ?_
        refine g_iload_n (pc' := 46)  hc rfl rfl rfl ?_
        refine g_icmp_ge (pc' := 49) hc rfl rfl (fun hx => ?_) (fun hx => ?_)
        · replace h := zwp_t h hx
          replace h := zwp_r h
          exact h (some (.int x9)) rfl
        · replace h := zwp_f h hx
          refine g_aload_n (pc' := 50)  hc rfl rfl rfl rfl ?_
          refine g_bipush (pc' := 52) (v := (70 : Int32)) hc rfl zkb_70 rfl ?_
          refine z_virt (as := [.int (70 : Int32)]) (a := 75) (r := []) hc rfl rfl rfl rfl sh_75 rfl zco_209 rfl rfl rfl ?_
          refine ok_X12_hourGoes_75 (zdp hd rfl) (zwp_mono (zwp_bind h) ?_)
          rintro ⟨o18, o19, o20⟩ h
          refine z_po (pc' := 55) (st' := []) (v := none) (L' := [(75, some 0, fun _ => o5), (91, none, o19), (93, none, o20), (94, none, o18)]) (K' := []) zco_209 rfl rfl rfl rfl rfl rfl rfl rfl ?_
          refine g_iload (pc' := 57)  hc rfl rfl rfl ?_
          refine g_aload_n (pc' := 58)  hc rfl rfl rfl rfl ?_
          refine z_getR (pc' := 61)  hc rfl rfl rfl sh_75 rfl rfl ?_
          refine g_bipush (pc' := 63) (v := (71 : Int32)) hc rfl zkb_71 rfl ?_
          refine g_iload_n (pc' := 64)  hc rfl rfl rfl ?_
          refine g_iadd (pc' := 65)  hc rfl rfl ?_
          have hb := (zwp_bnd h).1
          replace h := (zwp_bnd h).2
          refine z_iaload (pc' := 66) (v := (o19 ((71 : Int32) + a1).toNatClampNeg)) hc rfl rfl sh_91 hb rfl rfl ?_
          refine g_aload_n (pc' := 67)  hc rfl rfl rfl rfl ?_
          refine z_getR (pc' := 70)  hc rfl rfl rfl sh_75 rfl rfl ?_
          refine g_bipush (pc' := 72) (v := (71 : Int32)) hc rfl zkb_71 rfl ?_
          refine g_iload_n (pc' := 73)  hc rfl rfl rfl ?_
          refine g_iadd (pc' := 74)  hc rfl rfl ?_
          have hb := (zwp_bnd h).1
          replace h := (zwp_bnd h).2
          refine z_iaload (pc' := 75) (v := (o19 ((71 : Int32) + a2).toNatClampNeg)) hc rfl rfl sh_91 hb rfl rfl ?_
          refine zjn (G := (fun (j21 : Int32) => pm_ev C_X12_together (d + 1) (pm_call M cost zext d) cost (false, false) 108 0 0 Q 83 [some (.ref 75), some (.int a1), some (.int a2), some (.int a3), some (.int x8), some (.int x9)] [.int j21, .int x8] 0 0 (zS p q I [(75, some 0, fun _ => o5), (91, none, o19), (93, none, o20), (94, none, o18)] J []))) (zwp_bind h) ?_ (fun h => ?_)
          · rintro j21 h
            refine g_iadd (pc' := 84)  hc rfl rfl ?_
            refine g_istore (pc' := 86) (ls1 := [some (.ref 75), some (.int a1), some (.int a2), some (.int a3), some (.int (x8 + j21)), some (.int x9)]) hc rfl (zlt rfl) rfl rfl ?_
            refine g_iinc (pc' := 89) (ls1 := [some (.ref 75), some (.int a1), some (.int a2), some (.int a3), some (.int (x8 + j21)), some (.int (x9 + (1 : Int32)))]) hc rfl rfl zki_1 (zlt rfl) rfl rfl ?_
            refine g_goto hc rfl ?_
            replace h := zwp_l h
            exact h
          refine g_icmp_ne (pc' := 78) hc rfl rfl (fun hx => ?_) (fun hx => ?_)
          · replace h := zwp_f h hx
            refine g_iconst (pc' := 83) (v := (0 : Int32)) hc rfl zki_0 rfl ?_
            replace h := zws h
            exact h
          · replace h := zwp_t h hx
            refine g_iconst (pc' := 79) (v := (1 : Int32)) hc rfl zki_1 rfl ?_
            refine g_goto hc rfl ?_
            replace h := zws h
            exact h
      · replace h := zwp_t h hx
        refine g_iconst (pc' := 32) (v := (0 : Int32)) hc rfl zki_0 rfl ?_
        replace h := zws h
        exact g_ireturn hc rfl rfl rfl (fun _ => ⟨rfl, rfl⟩) h
set_option maxRecDepth 4000 in
theorem ok_X12_quiet_75 {p q : Nat} {I : pI} {J : pJ} {a1 : Int32} {a2 : Int32} {Q : pQ} {d : Nat} (hd : 7 ≤ d) (h : zwp (f_X12_quiet a1 a2 (I 80) (I 75 6) (I 75 53) (I 75 3) (I 75 7) (I 75 8) (I 79) (I 75 5) (I 94) (I 91) (I 75 2) (I 75 0) (I 93) (I 76) (I 77) (I 75 1)) (fun w => match w with | (r, o0, o1, o2, o3) => Q (.inl (some (.int r))) (zS p q I [(75, some 0, fun _ => o2), (91, none, o1), (93, none, o3), (94, none, o0)] J []))) : pm_call M cost zext d 241 [.ref 75, .int a1, .int a2] (pm_st 108 (shp p q) I J) Q := by
  obtain ⟨d, rfl⟩ := zd1 hd rfl
  have hc := pm_call_m (M := M) (cost := cost) zext_m d
  refine z_in (L := [(75, some 0, fun _ => (I 75 0)), (91, none, (I 91)), (93, none, (I 93)), (94, none, (I 94))]) (K := []) (ls := [some (.ref 75), some (.int a1), some (.int a2), none, none]) zmt_241 zco_241 rfl rfl (zid_s (zid_a (zid_a (zid_a zid_n)))) zid_n ?_
  delta f_X12_quiet at h
  refine g_aload_n (pc' := 1)  hc rfl rfl rfl rfl ?_
  refine g_iconst (pc' := 2) (v := (0 : Int32)) hc rfl zki_0 rfl ?_
  refine z_putI (pc' := 5) (L' := [(75, some 0, fun _ => (0 : Int32)), (91, none, (I 91)), (93, none, (I 93)), (94, none, (I 94))]) hc rfl rfl rfl sh_75 rfl zft_12_0 rfl (fun h => Bool.noConfusion h) rfl rfl rfl ?_
  refine g_aload_n (pc' := 6)  hc rfl rfl rfl rfl ?_
  refine g_iload_n (pc' := 7)  hc rfl rfl rfl ?_
  refine z_virt (as := [.int a1]) (a := 75) (r := []) hc rfl rfl rfl rfl sh_75 rfl zco_217 rfl rfl rfl ?_
  refine ok_X12_isCell_75 (zdp hd rfl) (zwp_mono (zwp_bind h) ?_)
  rintro ⟨r2, o1⟩ h
  refine z_po (pc' := 10) (st' := [.int r2]) (v := (some (.int r2))) (L' := [(75, some 0, fun _ => o1), (91, none, (I 91)), (93, none, (I 93)), (94, none, (I 94))]) (K' := []) zco_217 rfl rfl rfl rfl rfl rfl rfl rfl ?_
  refine g_if_eq (pc' := 13) hc rfl rfl (fun hx => ?_) (fun hx => ?_)
  · replace h := zwp_t h hx
    refine g_iconst (pc' := 24) (v := (0 : Int32)) hc rfl zki_0 rfl ?_
    replace h := zws h
    exact g_ireturn hc rfl rfl rfl (fun _ => ⟨rfl, rfl⟩) h
  · replace h := zwp_f h hx
    refine g_aload_n (pc' := 14)  hc rfl rfl rfl rfl ?_
    refine g_iload_n (pc' := 15)  hc rfl rfl rfl ?_
    refine g_iconst (pc' := 16) (v := (1 : Int32)) hc rfl zki_1 rfl ?_
    refine g_iconst (pc' := 17) (v := (2 : Int32)) hc rfl zki_2 rfl ?_
    refine z_virt (as := [.int a2, .int (1 : Int32), .int (2 : Int32)]) (a := 75) (r := []) hc rfl rfl rfl rfl sh_75 rfl zco_219 rfl rfl rfl ?_
    refine ok_X12_isSoon_75 (zdp hd rfl) (zwp_mono (zwp_bind h) ?_)
    rintro ⟨r4, o3⟩ h
    refine z_po (pc' := 20) (st' := [.int r4]) (v := (some (.int r4))) (L' := [(75, some 0, fun _ => o3), (91, none, (I 91)), (93, none, (I 93)), (94, none, (I 94))]) (K' := []) zco_219 rfl rfl rfl rfl rfl rfl rfl rfl ?_
    refine g_if_ne (pc' := 23) hc rfl rfl (fun hx => ?_) (fun hx => ?_)
    · replace h := zwp_f h hx
      refine g_iconst (pc' := 26) (v := (0 : Int32)) hc rfl zki_0 rfl ?_
      refine g_istore_n (pc' := 27) (ls1 := [some (.ref 75), some (.int a1), some (.int a2), some (.int (0 : Int32)), none]) hc rfl (zlt rfl) rfl rfl ?_
      refine g_aload_n (pc' := 28)  hc rfl rfl rfl rfl ?_
      refine z_virt (as := []) (a := 75) (r := []) hc rfl rfl rfl rfl sh_75 rfl zco_196 rfl rfl rfl ?_
      refine ok_X12_tries_75 (zdp hd rfl) (zwp_mono (zwp_bind h) ?_)
      rintro o5 h
      refine z_po (pc' := 31) (st' := []) (v := none) (L' := [(75, some 0, fun _ => o3), (91, none, o5), (93, none, (I 93)), (94, none, (I 94))]) (K' := []) zco_196 rfl rfl rfl rfl rfl rfl rfl rfl ?_
      refine g_iconst (pc' := 32) (v := (0 : Int32)) hc rfl zki_0 rfl ?_
      refine g_istore (pc' := 34) (ls1 := [some (.ref 75), some (.int a1), some (.int a2), some (.int (0 : Int32)), some (.int (0 : Int32))]) hc rfl (zlt rfl) rfl rfl ?_
      refine zjn (G := (fun (g : Int32 × (Nat → Int32) × (Nat → Int32) × (Nat → Int32)) => match g with | (y11, y13, y14, y15) => ∀ z12 : Option Value, znl z12 = true → pm_ev C_X12_quiet (d + 1) (pm_call M cost zext d) cost (false, false) 108 0 0 Q 70 [some (.ref 75), some (.int a1), some (.int a2), some (.int y11), z12] [] 0 0 (zS p q I [(75, some 0, fun _ => o3), (91, none, y14), (93, none, y15), (94, none, y13)] J []))) (zwp_bind h) ?_ (fun h => ?_)
      · rintro ⟨y11, y13, y14, y15⟩ h z12 hz12
        refine g_iload_n (pc' := 71)  hc rfl rfl rfl ?_
        replace h := zws h
        exact g_ireturn hc rfl rfl rfl (fun _ => ⟨rfl, rfl⟩) h
      refine zitr_ev (G := (fun (g : Int32 × Int32 × (Nat → Int32) × (Nat → Int32) × (Nat → Int32)) => match g with | (x6, x7, x8, x9, x10) => pm_ev C_X12_quiet (d + 1) (pm_call M cost zext d) cost (false, false) 108 0 0 Q 34 [some (.ref 75), some (.int a1), some (.int a2), some (.int x6), some (.int x7)] [] 0 0 (zS p q I [(75, some 0, fun _ => o3), (91, none, x9), (93, none, x10), (94, none, x8)] J []))) ?_ zFU ((0 : Int32), (0 : Int32), (I 94), o5, (I 93)) h
      rintro ⟨x6, x7, x8, x9, x10⟩ h
      refine g_iload (pc' := 36)  hc rfl rfl rfl ?_
      refine g_iload_n (pc' := 37)  hc rfl rfl rfl ?_
      refine g_icmp_ge (pc' := 40) hc rfl rfl (fun hx => ?_) (fun hx => ?_)
      · replace h := zwp_t h hx
        replace h := zwp_r h
        exact h (some (.int x7)) rfl
      · replace h := zwp_f h hx
        refine g_aload_n (pc' := 41)  hc rfl rfl rfl rfl ?_
        refine g_bipush (pc' := 43) (v := (70 : Int32)) hc rfl zkb_70 rfl ?_
        refine z_virt (as := [.int (70 : Int32)]) (a := 75) (r := []) hc rfl rfl rfl rfl sh_75 rfl zco_209 rfl rfl rfl ?_
        refine ok_X12_hourGoes_75 (zdp hd rfl) (zwp_mono (zwp_bind h) ?_)
        rintro ⟨o16, o17, o18⟩ h
        refine z_po (pc' := 46) (st' := []) (v := none) (L' := [(75, some 0, fun _ => o3), (91, none, o17), (93, none, o18), (94, none, o16)]) (K' := []) zco_209 rfl rfl rfl rfl rfl rfl rfl rfl ?_
        refine g_iload_n (pc' := 47)  hc rfl rfl rfl ?_
        refine g_aload_n (pc' := 48)  hc rfl rfl rfl rfl ?_
        refine g_bipush (pc' := 50) (v := (70 : Int32)) hc rfl zkb_70 rfl ?_
        refine g_iload_n (pc' := 51)  hc rfl rfl rfl ?_
        refine z_virt (as := [.int (70 : Int32), .int a1]) (a := 75) (r := [.int x6]) hc rfl rfl rfl rfl sh_75 rfl zco_201 rfl rfl rfl ?_
        refine ok_X12_atCell_75 (zdp hd rfl) (zwp_mono (zwp_bind h) ?_)
        rintro r19 h
        refine z_po (pc' := 54) (st' := [.int r19, .int x6]) (v := (some (.int r19))) (L' := [(75, some 0, fun _ => o3), (91, none, o17), (93, none, o18), (94, none, o16)]) (K' := []) zco_201 rfl rfl rfl rfl rfl rfl rfl rfl ?_
        refine zjn (G := (fun (j20 : Int32) => pm_ev C_X12_quiet (d + 1) (pm_call M cost zext d) cost (false, false) 108 0 0 Q 62 [some (.ref 75), some (.int a1), some (.int a2), some (.int x6), some (.int x7)] [.int j20, .int x6] 0 0 (zS p q I [(75, some 0, fun _ => o3), (91, none, o17), (93, none, o18), (94, none, o16)] J []))) (zwp_bind h) ?_ (fun h => ?_)
        · rintro j20 h
          refine g_iadd (pc' := 63)  hc rfl rfl ?_
          refine g_istore_n (pc' := 64) (ls1 := [some (.ref 75), some (.int a1), some (.int a2), some (.int (x6 + j20)), some (.int x7)]) hc rfl (zlt rfl) rfl rfl ?_
          refine g_iinc (pc' := 67) (ls1 := [some (.ref 75), some (.int a1), some (.int a2), some (.int (x6 + j20)), some (.int (x7 + (1 : Int32)))]) hc rfl rfl zki_1 (zlt rfl) rfl rfl ?_
          refine g_goto hc rfl ?_
          replace h := zwp_l h
          exact h
        refine g_if_ne (pc' := 57) hc rfl rfl (fun hx => ?_) (fun hx => ?_)
        · replace h := zwp_f h hx
          refine g_iconst (pc' := 62) (v := (0 : Int32)) hc rfl zki_0 rfl ?_
          replace h := zws h
          exact h
        · replace h := zwp_t h hx
          refine g_iconst (pc' := 58) (v := (1 : Int32)) hc rfl zki_1 rfl ?_
          refine g_goto hc rfl ?_
          replace h := zws h
          exact h
    · replace h := zwp_t h hx
      refine g_iconst (pc' := 24) (v := (0 : Int32)) hc rfl zki_0 rfl ?_
      replace h := zws h
      exact g_ireturn hc rfl rfl rfl (fun _ => ⟨rfl, rfl⟩) h
set_option maxRecDepth 4000 in
theorem ok_X12_gone_75 {p q : Nat} {I : pI} {J : pJ} {a1 : Int32} {a2 : Int32} {Q : pQ} {d : Nat} (hd : 7 ≤ d) (h : zwp (f_X12_gone a1 a2 (I 80) (I 75 6) (I 75 53) (I 75 3) (I 75 7) (I 75 8) (I 79) (I 75 5) (I 94) (I 91) (I 75 2) (I 75 0) (I 93) (I 76) (I 77) (I 75 1)) (fun w => match w with | (r, o0, o1, o2, o3) => Q (.inl (some (.int r))) (zS p q I [(75, some 0, fun _ => o2), (91, none, o1), (93, none, o3), (94, none, o0)] J []))) : pm_call M cost zext d 242 [.ref 75, .int a1, .int a2] (pm_st 108 (shp p q) I J) Q := by
  obtain ⟨d, rfl⟩ := zd1 hd rfl
  have hc := pm_call_m (M := M) (cost := cost) zext_m d
  refine z_in (L := [(75, some 0, fun _ => (I 75 0)), (91, none, (I 91)), (93, none, (I 93)), (94, none, (I 94))]) (K := []) (ls := [some (.ref 75), some (.int a1), some (.int a2), none, none, none]) zmt_242 zco_242 rfl rfl (zid_s (zid_a (zid_a (zid_a zid_n)))) zid_n ?_
  delta f_X12_gone at h
  refine g_aload_n (pc' := 1)  hc rfl rfl rfl rfl ?_
  refine g_iconst (pc' := 2) (v := (0 : Int32)) hc rfl zki_0 rfl ?_
  refine z_putI (pc' := 5) (L' := [(75, some 0, fun _ => (0 : Int32)), (91, none, (I 91)), (93, none, (I 93)), (94, none, (I 94))]) hc rfl rfl rfl sh_75 rfl zft_12_0 rfl (fun h => Bool.noConfusion h) rfl rfl rfl ?_
  refine g_aload_n (pc' := 6)  hc rfl rfl rfl rfl ?_
  refine g_iload_n (pc' := 7)  hc rfl rfl rfl ?_
  refine z_virt (as := [.int a1]) (a := 75) (r := []) hc rfl rfl rfl rfl sh_75 rfl zco_216 rfl rfl rfl ?_
  refine ok_X12_isFigure_75 (zdp hd rfl) (zwp_mono (zwp_bind h) ?_)
  rintro ⟨r2, o1⟩ h
  refine z_po (pc' := 10) (st' := [.int r2]) (v := (some (.int r2))) (L' := [(75, some 0, fun _ => o1), (91, none, (I 91)), (93, none, (I 93)), (94, none, (I 94))]) (K' := []) zco_216 rfl rfl rfl rfl rfl rfl rfl rfl ?_
  refine g_if_eq (pc' := 13) hc rfl rfl (fun hx => ?_) (fun hx => ?_)
  · replace h := zwp_t h hx
    refine g_iconst (pc' := 24) (v := (0 : Int32)) hc rfl zki_0 rfl ?_
    replace h := zws h
    exact g_ireturn hc rfl rfl rfl (fun _ => ⟨rfl, rfl⟩) h
  · replace h := zwp_f h hx
    refine g_aload_n (pc' := 14)  hc rfl rfl rfl rfl ?_
    refine g_iload_n (pc' := 15)  hc rfl rfl rfl ?_
    refine g_iconst (pc' := 16) (v := (0 : Int32)) hc rfl zki_0 rfl ?_
    refine g_iconst (pc' := 17) (v := (2 : Int32)) hc rfl zki_2 rfl ?_
    refine z_virt (as := [.int a2, .int (0 : Int32), .int (2 : Int32)]) (a := 75) (r := []) hc rfl rfl rfl rfl sh_75 rfl zco_219 rfl rfl rfl ?_
    refine ok_X12_isSoon_75 (zdp hd rfl) (zwp_mono (zwp_bind h) ?_)
    rintro ⟨r4, o3⟩ h
    refine z_po (pc' := 20) (st' := [.int r4]) (v := (some (.int r4))) (L' := [(75, some 0, fun _ => o3), (91, none, (I 91)), (93, none, (I 93)), (94, none, (I 94))]) (K' := []) zco_219 rfl rfl rfl rfl rfl rfl rfl rfl ?_
    refine g_if_ne (pc' := 23) hc rfl rfl (fun hx => ?_) (fun hx => ?_)
    · replace h := zwp_f h hx
      refine g_iconst (pc' := 26) (v := (0 : Int32)) hc rfl zki_0 rfl ?_
      refine g_istore_n (pc' := 27) (ls1 := [some (.ref 75), some (.int a1), some (.int a2), some (.int (0 : Int32)), none, none]) hc rfl (zlt rfl) rfl rfl ?_
      refine g_aload_n (pc' := 28)  hc rfl rfl rfl rfl ?_
      refine z_virt (as := []) (a := 75) (r := []) hc rfl rfl rfl rfl sh_75 rfl zco_196 rfl rfl rfl ?_
      refine ok_X12_tries_75 (zdp hd rfl) (zwp_mono (zwp_bind h) ?_)
      rintro o5 h
      refine z_po (pc' := 31) (st' := []) (v := none) (L' := [(75, some 0, fun _ => o3), (91, none, o5), (93, none, (I 93)), (94, none, (I 94))]) (K' := []) zco_196 rfl rfl rfl rfl rfl rfl rfl rfl ?_
      refine g_iconst (pc' := 32) (v := (0 : Int32)) hc rfl zki_0 rfl ?_
      refine g_istore (pc' := 34) (ls1 := [some (.ref 75), some (.int a1), some (.int a2), some (.int (0 : Int32)), some (.int (0 : Int32)), none]) hc rfl (zlt rfl) rfl rfl ?_
      refine zjn (G := (fun (g : Int32 × (Nat → Int32) × (Nat → Int32) × (Nat → Int32)) => match g with | (y12, y15, y16, y17) => ∀ z13 : Option Value, znl z13 = true → ∀ z14 : Option Value, znl z14 = true → pm_ev C_X12_gone (d + 1) (pm_call M cost zext d) cost (false, false) 108 0 0 Q 85 [some (.ref 75), some (.int a1), some (.int a2), some (.int y12), z13, z14] [] 0 0 (zS p q I [(75, some 0, fun _ => o3), (91, none, y16), (93, none, y17), (94, none, y15)] J []))) (zwp_bind h) ?_ (fun h => ?_)
      · rintro ⟨y12, y15, y16, y17⟩ h z13 hz13 z14 hz14
        refine g_iload_n (pc' := 86)  hc rfl rfl rfl ?_
        replace h := zws h
        exact g_ireturn hc rfl rfl rfl (fun _ => ⟨rfl, rfl⟩) h
      refine zitr_ev (G := (fun (g : Int32 × Int32 × (Nat → Int32) × (Nat → Int32) × (Nat → Int32)) => match g with | (x6, x7, x9, x10, x11) => ∀ z8 : Option Value, znl z8 = true → pm_ev C_X12_gone (d + 1) (pm_call M cost zext d) cost (false, false) 108 0 0 Q 34 [some (.ref 75), some (.int a1), some (.int a2), some (.int x6), some (.int x7), z8] [] 0 0 (zS p q I [(75, some 0, fun _ => o3), (91, none, x10), (93, none, x11), (94, none, x9)] J []))) ?_ zFU ((0 : Int32), (0 : Int32), (I 94), o5, (I 93)) h none rfl
      rintro ⟨x6, x7, x9, x10, x11⟩ h z8 hz8
      refine g_iload (pc' := 36)  hc rfl rfl rfl ?_
      refine g_iload_n (pc' := 37)  hc rfl rfl rfl ?_
      refine g_icmp_ge (pc' := 40) hc rfl rfl (fun hx => ?_) (fun hx => ?_)
      · replace h := zwp_t h hx
        replace h := zwp_r h
        exact h (some (.int x7)) rfl z8 hz8
      · replace h := zwp_f h hx
        refine g_aload_n (pc' := 41)  hc rfl rfl rfl rfl ?_
        refine z_getR (pc' := 44)  hc rfl rfl rfl sh_75 rfl rfl ?_
        refine g_bipush (pc' := 46) (v := (71 : Int32)) hc rfl zkb_71 rfl ?_
        refine g_iload_n (pc' := 47)  hc rfl rfl rfl ?_
        refine g_iadd (pc' := 48)  hc rfl rfl ?_
        have hb := (zwp_bnd h).1
        replace h := (zwp_bnd h).2
        refine z_iaload (pc' := 49) (v := (x10 ((71 : Int32) + a1).toNatClampNeg)) hc rfl rfl sh_91 hb rfl rfl ?_
        refine g_istore (pc' := 51) (ls1 := [some (.ref 75), some (.int a1), some (.int a2), some (.int x6), some (.int x7), some (.int (x10 ((71 : Int32) + a1).toNatClampNeg))]) hc rfl (zlt rfl) rfl rfl ?_
        refine g_aload_n (pc' := 52)  hc rfl rfl rfl rfl ?_
        refine g_bipush (pc' := 54) (v := (70 : Int32)) hc rfl zkb_70 rfl ?_
        refine z_virt (as := [.int (70 : Int32)]) (a := 75) (r := []) hc rfl rfl rfl rfl sh_75 rfl zco_209 rfl rfl rfl ?_
        refine ok_X12_hourGoes_75 (zdp hd rfl) (zwp_mono (zwp_bind h) ?_)
        rintro ⟨o18, o19, o20⟩ h
        refine z_po (pc' := 57) (st' := []) (v := none) (L' := [(75, some 0, fun _ => o3), (91, none, o19), (93, none, o20), (94, none, o18)]) (K' := []) zco_209 rfl rfl rfl rfl rfl rfl rfl rfl ?_
        refine g_iload_n (pc' := 58)  hc rfl rfl rfl ?_
        refine g_aload_n (pc' := 59)  hc rfl rfl rfl rfl ?_
        refine z_getR (pc' := 62)  hc rfl rfl rfl sh_75 rfl rfl ?_
        refine g_bipush (pc' := 64) (v := (71 : Int32)) hc rfl zkb_71 rfl ?_
        refine g_iload_n (pc' := 65)  hc rfl rfl rfl ?_
        refine g_iadd (pc' := 66)  hc rfl rfl ?_
        have hb := (zwp_bnd h).1
        replace h := (zwp_bnd h).2
        refine z_iaload (pc' := 67) (v := (o19 ((71 : Int32) + a1).toNatClampNeg)) hc rfl rfl sh_91 hb rfl rfl ?_
        refine g_iload (pc' := 69)  hc rfl rfl rfl ?_
        refine zjn (G := (fun (j21 : Int32) => pm_ev C_X12_gone (d + 1) (pm_call M cost zext d) cost (false, false) 108 0 0 Q 77 [some (.ref 75), some (.int a1), some (.int a2), some (.int x6), some (.int x7), some (.int (x10 ((71 : Int32) + a1).toNatClampNeg))] [.int j21, .int x6] 0 0 (zS p q I [(75, some 0, fun _ => o3), (91, none, o19), (93, none, o20), (94, none, o18)] J []))) (zwp_bind h) ?_ (fun h => ?_)
        · rintro j21 h
          refine g_iadd (pc' := 78)  hc rfl rfl ?_
          refine g_istore_n (pc' := 79) (ls1 := [some (.ref 75), some (.int a1), some (.int a2), some (.int (x6 + j21)), some (.int x7), some (.int (x10 ((71 : Int32) + a1).toNatClampNeg))]) hc rfl (zlt rfl) rfl rfl ?_
          refine g_iinc (pc' := 82) (ls1 := [some (.ref 75), some (.int a1), some (.int a2), some (.int (x6 + j21)), some (.int (x7 + (1 : Int32))), some (.int (x10 ((71 : Int32) + a1).toNatClampNeg))]) hc rfl rfl zki_1 (zlt rfl) rfl rfl ?_
          refine g_goto hc rfl ?_
          replace h := zwp_l h
          exact h (some (.int (x10 ((71 : Int32) + a1).toNatClampNeg))) rfl
        refine g_icmp_eq (pc' := 72) hc rfl rfl (fun hx => ?_) (fun hx => ?_)
        · replace h := zwp_t h hx
          refine g_iconst (pc' := 77) (v := (0 : Int32)) hc rfl zki_0 rfl ?_
          replace h := zws h
          exact h
        · replace h := zwp_f h hx
          refine g_iconst (pc' := 73) (v := (1 : Int32)) hc rfl zki_1 rfl ?_
          refine g_goto hc rfl ?_
          replace h := zws h
          exact h
    · replace h := zwp_t h hx
      refine g_iconst (pc' := 24) (v := (0 : Int32)) hc rfl zki_0 rfl ?_
      replace h := zws h
      exact g_ireturn hc rfl rfl rfl (fun _ => ⟨rfl, rfl⟩) h
set_option maxRecDepth 4000 in
theorem ok_X12_way_75 {p q : Nat} {I : pI} {J : pJ} {a1 : Int32} {a2 : Int32} {a3 : Int32} {Q : pQ} {d : Nat} (hd : 3 ≤ d) (h : zwp (f_X12_way a1 a2 a3 (I 95) (I 96) (I 91) (I 75 2) (I 75 0) (I 75 1)) (fun w => match w with | (r, o0, o1, o2) => Q (.inl (some (.int r))) (zS p q I [(75, some 0, fun _ => o2), (95, none, o0), (96, none, o1)] J []))) : pm_call M cost zext d 243 [.ref 75, .int a1, .int a2, .int a3] (pm_st 108 (shp p q) I J) Q := by
  obtain ⟨d, rfl⟩ := zd1 hd rfl
  have hc := pm_call_m (M := M) (cost := cost) zext_m d
  refine z_in (L := [(75, some 0, fun _ => (I 75 0)), (95, none, (I 95)), (96, none, (I 96))]) (K := []) (ls := [some (.ref 75), some (.int a1), some (.int a2), some (.int a3), none, none, none]) zmt_243 zco_243 rfl rfl (zid_s (zid_a (zid_a zid_n))) zid_n ?_
  delta f_X12_way at h
  refine g_aload_n (pc' := 1)  hc rfl rfl rfl rfl ?_
  refine g_iconst (pc' := 2) (v := (0 : Int32)) hc rfl zki_0 rfl ?_
  refine z_putI (pc' := 5) (L' := [(75, some 0, fun _ => (0 : Int32)), (95, none, (I 95)), (96, none, (I 96))]) hc rfl rfl rfl sh_75 rfl zft_12_0 rfl (fun h => Bool.noConfusion h) rfl rfl rfl ?_
  refine g_aload_n (pc' := 6)  hc rfl rfl rfl rfl ?_
  refine g_iload_n (pc' := 7)  hc rfl rfl rfl ?_
  refine z_virt (as := [.int a1]) (a := 75) (r := []) hc rfl rfl rfl rfl sh_75 rfl zco_217 rfl rfl rfl ?_
  refine ok_X12_isCell_75 (zdp hd rfl) (zwp_mono (zwp_bind h) ?_)
  rintro ⟨r2, o1⟩ h
  refine z_po (pc' := 10) (st' := [.int r2]) (v := (some (.int r2))) (L' := [(75, some 0, fun _ => o1), (95, none, (I 95)), (96, none, (I 96))]) (K' := []) zco_217 rfl rfl rfl rfl rfl rfl rfl rfl ?_
  refine g_if_eq (pc' := 13) hc rfl rfl (fun hx => ?_) (fun hx => ?_)
  · replace h := zwp_t h hx
    refine g_iconst (pc' := 31) (v := (0 : Int32)) hc rfl zki_0 rfl ?_
    replace h := zws h
    exact g_ireturn hc rfl rfl rfl (fun _ => ⟨rfl, rfl⟩) h
  · replace h := zwp_f h hx
    refine g_aload_n (pc' := 14)  hc rfl rfl rfl rfl ?_
    refine g_iload_n (pc' := 15)  hc rfl rfl rfl ?_
    refine z_virt (as := [.int a2]) (a := 75) (r := []) hc rfl rfl rfl rfl sh_75 rfl zco_217 rfl rfl rfl ?_
    refine ok_X12_isCell_75 (zdp hd rfl) (zwp_mono (zwp_bind h) ?_)
    rintro ⟨r4, o3⟩ h
    refine z_po (pc' := 18) (st' := [.int r4]) (v := (some (.int r4))) (L' := [(75, some 0, fun _ => o3), (95, none, (I 95)), (96, none, (I 96))]) (K' := []) zco_217 rfl rfl rfl rfl rfl rfl rfl rfl ?_
    refine g_if_eq (pc' := 21) hc rfl rfl (fun hx => ?_) (fun hx => ?_)
    · replace h := zwp_t h hx
      refine g_iconst (pc' := 31) (v := (0 : Int32)) hc rfl zki_0 rfl ?_
      replace h := zws h
      exact g_ireturn hc rfl rfl rfl (fun _ => ⟨rfl, rfl⟩) h
    · replace h := zwp_f h hx
      refine g_aload_n (pc' := 22)  hc rfl rfl rfl rfl ?_
      refine g_iload_n (pc' := 23)  hc rfl rfl rfl ?_
      refine g_iconst (pc' := 24) (v := (1 : Int32)) hc rfl zki_1 rfl ?_
      refine z_virt (as := [.int a3, .int (1 : Int32)]) (a := 75) (r := []) hc rfl rfl rfl rfl sh_75 rfl zco_218 rfl rfl rfl ?_
      refine ok_X12_isWhat_75 (zdp hd rfl) (zwp_mono (zwp_bind h) ?_)
      rintro ⟨r6, o5⟩ h
      refine z_po (pc' := 27) (st' := [.int r6]) (v := (some (.int r6))) (L' := [(75, some 0, fun _ => o5), (95, none, (I 95)), (96, none, (I 96))]) (K' := []) zco_218 rfl rfl rfl rfl rfl rfl rfl rfl ?_
      refine g_if_ne (pc' := 30) hc rfl rfl (fun hx => ?_) (fun hx => ?_)
      · replace h := zwp_f h hx
        refine g_aload_n (pc' := 33)  hc rfl rfl rfl rfl ?_
        refine g_iload_n (pc' := 34)  hc rfl rfl rfl ?_
        refine z_virt (as := [.int a2]) (a := 75) (r := []) hc rfl rfl rfl rfl sh_75 rfl zco_213 rfl rfl rfl ?_
        refine ok_X12_laysFar_75 (zdp hd rfl) (zwp_mono (zwp_bind h) ?_)
        rintro ⟨o7, o8⟩ h
        refine z_po (pc' := 37) (st' := []) (v := none) (L' := [(75, some 0, fun _ => o5), (95, none, o7), (96, none, o8)]) (K' := []) zco_213 rfl rfl rfl rfl rfl rfl rfl rfl ?_
        refine g_iload_n (pc' := 38)  hc rfl rfl rfl ?_
        refine g_if_ne (pc' := 41) hc rfl rfl (fun hx => ?_) (fun hx => ?_)
        · replace h := zwp_f h hx
          refine g_iconst (pc' := 65) (v := (-1 : Int32)) hc rfl zki_m1 rfl ?_
          refine g_istore (pc' := 67) (ls1 := [some (.ref 75), some (.int a1), some (.int a2), some (.int a3), some (.int (-1 : Int32)), none, none]) hc rfl (zlt rfl) rfl rfl ?_
          refine g_iconst (pc' := 68) (v := (1 : Int32)) hc rfl zki_1 rfl ?_
          refine g_istore (pc' := 70) (ls1 := [some (.ref 75), some (.int a1), some (.int a2), some (.int a3), some (.int (-1 : Int32)), some (.int (1 : Int32)), none]) hc rfl (zlt rfl) rfl rfl ?_
          refine zjn (G := (fun (y12 : Int32) => ∀ z13 : Option Value, znl z13 = true → ∀ z14 : Option Value, znl z14 = true → pm_ev C_X12_way (d + 1) (pm_call M cost zext d) cost (false, false) 108 0 0 Q 173 [some (.ref 75), some (.int a1), some (.int a2), some (.int a3), some (.int y12), z13, z14] [] 0 0 (zS p q I [(75, some 0, fun _ => o5), (95, none, o7), (96, none, o8)] J []))) (zwp_bind h) ?_ (fun h => ?_)
          · rintro y12 h z13 hz13 z14 hz14
            refine g_iload (pc' := 175)  hc rfl rfl rfl ?_
            replace h := zws h
            exact g_ireturn hc rfl rfl rfl (fun _ => ⟨rfl, rfl⟩) h
          refine zitr_ev (G := (fun (g : Int32 × Int32) => match g with | (x9, x10) => ∀ z11 : Option Value, znl z11 = true → pm_ev C_X12_way (d + 1) (pm_call M cost zext d) cost (false, false) 108 0 0 Q 70 [some (.ref 75), some (.int a1), some (.int a2), some (.int a3), some (.int x9), some (.int x10), z11] [] 0 0 (zS p q I [(75, some 0, fun _ => o5), (95, none, o7), (96, none, o8)] J []))) ?_ zFU ((-1 : Int32), (1 : Int32)) h none rfl
          rintro ⟨x9, x10⟩ h z11 hz11
          refine g_iload (pc' := 72)  hc rfl rfl rfl ?_
          refine g_iconst (pc' := 73) (v := (5 : Int32)) hc rfl zki_5 rfl ?_
          refine g_icmp_ge (pc' := 76) hc rfl rfl (fun hx => ?_) (fun hx => ?_)
          · replace h := zwp_t h hx
            replace h := zwp_r h
            exact h (some (.int x10)) rfl z11 hz11
          · replace h := zwp_f h hx
            refine g_aload_n (pc' := 77)  hc rfl rfl rfl rfl ?_
            refine z_getR (pc' := 80)  hc rfl rfl rfl sh_75 rfl rfl ?_
            refine g_iload_n (pc' := 81)  hc rfl rfl rfl ?_
            have hb := (zwp_bnd h).1
            replace h := (zwp_bnd h).2
            refine z_iaload (pc' := 82) (v := (o7 a1.toNatClampNeg)) hc rfl rfl sh_95 hb rfl rfl ?_
            refine g_if_le (pc' := 85) hc rfl rfl (fun hx => ?_) (fun hx => ?_)
            · replace h := zwp_t h hx
              replace h := zwp_r h
              exact h (some (.int x10)) rfl z11 hz11
            · replace h := zwp_f h hx
              refine g_aload_n (pc' := 86)  hc rfl rfl rfl rfl ?_
              refine z_getR (pc' := 89)  hc rfl rfl rfl sh_75 rfl rfl ?_
              refine g_iload_n (pc' := 90)  hc rfl rfl rfl ?_
              have hb := (zwp_bnd h).1
              replace h := (zwp_bnd h).2
              refine z_iaload (pc' := 91) (v := (o7 a1.toNatClampNeg)) hc rfl rfl sh_95 hb rfl rfl ?_
              refine g_sipush (pc' := 94) (v := (9999 : Int32)) hc rfl zks_9999 rfl ?_
              refine g_icmp_ge (pc' := 97) hc rfl rfl (fun hx => ?_) (fun hx => ?_)
              · replace h := zwp_t h hx
                replace h := zwp_r h
                exact h (some (.int x10)) rfl z11 hz11
              · replace h := zwp_f h hx
                refine g_aload_n (pc' := 98)  hc rfl rfl rfl rfl ?_
                refine g_iload_n (pc' := 99)  hc rfl rfl rfl ?_
                refine g_iload (pc' := 101)  hc rfl rfl rfl ?_
                refine z_virt (as := [.int a1, .int x10]) (a := 75) (r := []) hc rfl rfl rfl rfl sh_75 rfl zco_207 rfl rfl rfl ?_
                refine ok_X12_beside_75 (zdp hd rfl) (zwp_mono (zwp_bind h) ?_)
                rintro r15 h
                refine z_po (pc' := 104) (st' := [.int r15]) (v := (some (.int r15))) (L' := [(75, some 0, fun _ => o5), (95, none, o7), (96, none, o8)]) (K' := []) zco_207 rfl rfl rfl rfl rfl rfl rfl rfl ?_
                refine g_istore (pc' := 106) (ls1 := [some (.ref 75), some (.int a1), some (.int a2), some (.int a3), some (.int x9), some (.int x10), some (.int r15)]) hc rfl (zlt rfl) rfl rfl ?_
                refine g_iload (pc' := 108)  hc rfl rfl rfl ?_
                refine g_iconst (pc' := 109) (v := (-1 : Int32)) hc rfl zki_m1 rfl ?_
                refine g_icmp_eq (pc' := 112) hc rfl rfl (fun hx => ?_) (fun hx => ?_)
                · replace h := zwp_t h hx
                  refine g_iinc (pc' := 170) (ls1 := [some (.ref 75), some (.int a1), some (.int a2), some (.int a3), some (.int x9), some (.int (x10 + (1 : Int32))), some (.int r15)]) hc rfl rfl zki_1 (zlt rfl) rfl rfl ?_
                  refine g_goto hc rfl ?_
                  replace h := zwp_l h
                  exact h (some (.int r15)) rfl
                · replace h := zwp_f h hx
                  refine g_aload_n (pc' := 113)  hc rfl rfl rfl rfl ?_
                  refine z_getR (pc' := 116)  hc rfl rfl rfl sh_75 rfl rfl ?_
                  refine g_bipush (pc' := 118) (v := (33 : Int32)) hc rfl zkb_33 rfl ?_
                  refine g_iload (pc' := 120)  hc rfl rfl rfl ?_
                  refine g_iadd (pc' := 121)  hc rfl rfl ?_
                  have hb := (zwp_bnd h).1
                  replace h := (zwp_bnd h).2
                  refine z_iaload (pc' := 122) (v := (((I 91)) ((33 : Int32) + r15).toNatClampNeg)) hc rfl rfl sh_91 hb rfl rfl ?_
                  refine g_iconst (pc' := 123) (v := (1 : Int32)) hc rfl zki_1 rfl ?_
                  refine g_icmp_eq (pc' := 126) hc rfl rfl (fun hx => ?_) (fun hx => ?_)
                  · replace h := zwp_t h hx
                    refine g_iinc (pc' := 170) (ls1 := [some (.ref 75), some (.int a1), some (.int a2), some (.int a3), some (.int x9), some (.int (x10 + (1 : Int32))), some (.int r15)]) hc rfl rfl zki_1 (zlt rfl) rfl rfl ?_
                    refine g_goto hc rfl ?_
                    replace h := zwp_l h
                    exact h (some (.int r15)) rfl
                  · replace h := zwp_f h hx
                    refine g_aload_n (pc' := 127)  hc rfl rfl rfl rfl ?_
                    refine z_getR (pc' := 130)  hc rfl rfl rfl sh_75 rfl rfl ?_
                    refine g_iload (pc' := 132)  hc rfl rfl rfl ?_
                    have hb := (zwp_bnd h).1
                    replace h := (zwp_bnd h).2
                    refine z_iaload (pc' := 133) (v := (o7 r15.toNatClampNeg)) hc rfl rfl sh_95 hb rfl rfl ?_
                    refine g_aload_n (pc' := 134)  hc rfl rfl rfl rfl ?_
                    refine z_getR (pc' := 137)  hc rfl rfl rfl sh_75 rfl rfl ?_
                    refine g_iload_n (pc' := 138)  hc rfl rfl rfl ?_
                    have hb := (zwp_bnd h).1
                    replace h := (zwp_bnd h).2
                    refine z_iaload (pc' := 139) (v := (o7 a1.toNatClampNeg)) hc rfl rfl sh_95 hb rfl rfl ?_
                    refine g_iconst (pc' := 140) (v := (1 : Int32)) hc rfl zki_1 rfl ?_
                    refine g_isub (pc' := 141)  hc rfl rfl ?_
                    refine g_icmp_eq (pc' := 144) hc rfl rfl (fun hx => ?_) (fun hx => ?_)
                    · replace h := zwp_t h hx
                      refine g_iload (pc' := 149)  hc rfl rfl rfl ?_
                      refine g_iconst (pc' := 150) (v := (-1 : Int32)) hc rfl zki_m1 rfl ?_
                      refine zjn (G := (fun (j16 : Int32) => pm_ev C_X12_way (d + 1) (pm_call M cost zext d) cost (false, false) 108 0 0 Q 165 [some (.ref 75), some (.int a1), some (.int a2), some (.int a3), some (.int x9), some (.int x10), some (.int r15)] [.int j16] 0 0 (zS p q I [(75, some 0, fun _ => o5), (95, none, o7), (96, none, o8)] J []))) (zwp_bind h) ?_ (fun h => ?_)
                      · rintro j16 h
                        refine g_istore (pc' := 167) (ls1 := [some (.ref 75), some (.int a1), some (.int a2), some (.int a3), some (.int j16), some (.int x10), some (.int r15)]) hc rfl (zlt rfl) rfl rfl ?_
                        refine g_iinc (pc' := 170) (ls1 := [some (.ref 75), some (.int a1), some (.int a2), some (.int a3), some (.int j16), some (.int (x10 + (1 : Int32))), some (.int r15)]) hc rfl rfl zki_1 (zlt rfl) rfl rfl ?_
                        refine g_goto hc rfl ?_
                        replace h := zwp_l h
                        exact h (some (.int r15)) rfl
                      refine g_icmp_ne (pc' := 153) hc rfl rfl (fun hx => ?_) (fun hx => ?_)
                      · replace h := zwp_f h hx
                        refine g_iload (pc' := 160)  hc rfl rfl rfl ?_
                        refine g_iload (pc' := 162)  hc rfl rfl rfl ?_
                        refine z_stat (as := [.int x9, .int r15]) (r := []) hc rfl rfl rfl rfl zco_156 rfl rfl rfl ?_
                        refine ok_X12_lesser (zdp hd rfl) (zwp_mono (zwp_bind h) ?_)
                        rintro r17 h
                        refine z_po (pc' := 165) (st' := [.int r17]) (v := (some (.int r17))) (L' := [(75, some 0, fun _ => o5), (95, none, o7), (96, none, o8)]) (K' := []) zco_156 rfl rfl rfl rfl rfl rfl rfl rfl ?_
                        replace h := zws h
                        exact h
                      · replace h := zwp_t h hx
                        refine g_iload (pc' := 155)  hc rfl rfl rfl ?_
                        refine g_goto hc rfl ?_
                        replace h := zws h
                        exact h
                    · replace h := zwp_f h hx
                      refine g_goto hc rfl ?_
                      refine g_iinc (pc' := 170) (ls1 := [some (.ref 75), some (.int a1), some (.int a2), some (.int a3), some (.int x9), some (.int (x10 + (1 : Int32))), some (.int r15)]) hc rfl rfl zki_1 (zlt rfl) rfl rfl ?_
                      refine g_goto hc rfl ?_
                      replace h := zwp_l h
                      exact h (some (.int r15)) rfl
        · replace h := zwp_t h hx
          refine g_aload_n (pc' := 42)  hc rfl rfl rfl rfl ?_
          refine z_getR (pc' := 45)  hc rfl rfl rfl sh_75 rfl rfl ?_
          refine g_iload_n (pc' := 46)  hc rfl rfl rfl ?_
          have hb := (zwp_bnd h).1
          replace h := (zwp_bnd h).2
          refine z_iaload (pc' := 47) (v := (o7 a1.toNatClampNeg)) hc rfl rfl sh_95 hb rfl rfl ?_
          refine g_sipush (pc' := 50) (v := (9999 : Int32)) hc rfl zks_9999 rfl ?_
          refine g_icmp_lt (pc' := 53) hc rfl rfl (fun hx => ?_) (fun hx => ?_)
          · replace h := zwp_t h hx
            refine g_aload_n (pc' := 58)  hc rfl rfl rfl rfl ?_
            refine z_getR (pc' := 61)  hc rfl rfl rfl sh_75 rfl rfl ?_
            refine g_iload_n (pc' := 62)  hc rfl rfl rfl ?_
            have hb := (zwp_bnd h).1
            replace h := (zwp_bnd h).2
            refine z_iaload (pc' := 63) (v := (o7 a1.toNatClampNeg)) hc rfl rfl sh_95 hb rfl rfl ?_
            replace h := zws h
            exact g_ireturn hc rfl rfl rfl (fun _ => ⟨rfl, rfl⟩) h
          · replace h := zwp_f h hx
            refine g_iconst (pc' := 54) (v := (-1 : Int32)) hc rfl zki_m1 rfl ?_
            refine g_goto hc rfl ?_
            replace h := zws h
            exact g_ireturn hc rfl rfl rfl (fun _ => ⟨rfl, rfl⟩) h
      · replace h := zwp_t h hx
        refine g_iconst (pc' := 31) (v := (0 : Int32)) hc rfl zki_0 rfl ?_
        replace h := zws h
        exact g_ireturn hc rfl rfl rfl (fun _ => ⟨rfl, rfl⟩) h
set_option maxRecDepth 4000 in
theorem ok_X12_toStop_75 {p q : Nat} {I : pI} {J : pJ} {a1 : Int32} {a2 : Int32} {a3 : Int32} {Q : pQ} {d : Nat} (hd : 8 ≤ d) (h : zwp (f_X12_toStop a1 a2 a3 (I 80) (I 75 6) (I 75 53) (I 75 3) (I 75 7) (I 75 8) (I 79) (I 75 5) (I 94) (I 91) (I 75 2) (I 75 0) (I 93) (I 76) (I 77) (I 75 1)) (fun w => match w with | (r, o0, o1, o2, o3) => Q (.inl (some (.int r))) (zS p q I [(75, some 0, fun _ => o2), (91, none, o1), (93, none, o3), (94, none, o0)] J []))) : pm_call M cost zext d 244 [.ref 75, .int a1, .int a2, .int a3] (pm_st 108 (shp p q) I J) Q := by
  obtain ⟨d, rfl⟩ := zd1 hd rfl
  have hc := pm_call_m (M := M) (cost := cost) zext_m d
  refine z_in (L := [(75, some 0, fun _ => (I 75 0)), (91, none, (I 91)), (93, none, (I 93)), (94, none, (I 94))]) (K := []) (ls := [some (.ref 75), some (.int a1), some (.int a2), some (.int a3), none]) zmt_244 zco_244 rfl rfl (zid_s (zid_a (zid_a (zid_a zid_n)))) zid_n ?_
  delta f_X12_toStop at h
  refine g_aload_n (pc' := 1)  hc rfl rfl rfl rfl ?_
  refine g_iconst (pc' := 2) (v := (0 : Int32)) hc rfl zki_0 rfl ?_
  refine z_putI (pc' := 5) (L' := [(75, some 0, fun _ => (0 : Int32)), (91, none, (I 91)), (93, none, (I 93)), (94, none, (I 94))]) hc rfl rfl rfl sh_75 rfl zft_12_0 rfl (fun h => Bool.noConfusion h) rfl rfl rfl ?_
  refine g_aload_n (pc' := 6)  hc rfl rfl rfl rfl ?_
  refine g_iload_n (pc' := 7)  hc rfl rfl rfl ?_
  refine z_virt (as := [.int a1]) (a := 75) (r := []) hc rfl rfl rfl rfl sh_75 rfl zco_216 rfl rfl rfl ?_
  refine ok_X12_isFigure_75 (zdp hd rfl) (zwp_mono (zwp_bind h) ?_)
  rintro ⟨r2, o1⟩ h
  refine z_po (pc' := 10) (st' := [.int r2]) (v := (some (.int r2))) (L' := [(75, some 0, fun _ => o1), (91, none, (I 91)), (93, none, (I 93)), (94, none, (I 94))]) (K' := []) zco_216 rfl rfl rfl rfl rfl rfl rfl rfl ?_
  refine g_if_eq (pc' := 13) hc rfl rfl (fun hx => ?_) (fun hx => ?_)
  · replace h := zwp_t h hx
    refine g_iconst (pc' := 32) (v := (0 : Int32)) hc rfl zki_0 rfl ?_
    replace h := zws h
    exact g_ireturn hc rfl rfl rfl (fun _ => ⟨rfl, rfl⟩) h
  · replace h := zwp_f h hx
    refine g_aload_n (pc' := 14)  hc rfl rfl rfl rfl ?_
    refine g_iload_n (pc' := 15)  hc rfl rfl rfl ?_
    refine z_virt (as := [.int a2]) (a := 75) (r := []) hc rfl rfl rfl rfl sh_75 rfl zco_217 rfl rfl rfl ?_
    refine ok_X12_isCell_75 (zdp hd rfl) (zwp_mono (zwp_bind h) ?_)
    rintro ⟨r4, o3⟩ h
    refine z_po (pc' := 18) (st' := [.int r4]) (v := (some (.int r4))) (L' := [(75, some 0, fun _ => o3), (91, none, (I 91)), (93, none, (I 93)), (94, none, (I 94))]) (K' := []) zco_217 rfl rfl rfl rfl rfl rfl rfl rfl ?_
    refine g_if_eq (pc' := 21) hc rfl rfl (fun hx => ?_) (fun hx => ?_)
    · replace h := zwp_t h hx
      refine g_iconst (pc' := 32) (v := (0 : Int32)) hc rfl zki_0 rfl ?_
      replace h := zws h
      exact g_ireturn hc rfl rfl rfl (fun _ => ⟨rfl, rfl⟩) h
    · replace h := zwp_f h hx
      refine g_aload_n (pc' := 22)  hc rfl rfl rfl rfl ?_
      refine g_iload_n (pc' := 23)  hc rfl rfl rfl ?_
      refine g_iconst (pc' := 24) (v := (0 : Int32)) hc rfl zki_0 rfl ?_
      refine g_iconst (pc' := 25) (v := (2 : Int32)) hc rfl zki_2 rfl ?_
      refine z_virt (as := [.int a3, .int (0 : Int32), .int (2 : Int32)]) (a := 75) (r := []) hc rfl rfl rfl rfl sh_75 rfl zco_219 rfl rfl rfl ?_
      refine ok_X12_isSoon_75 (zdp hd rfl) (zwp_mono (zwp_bind h) ?_)
      rintro ⟨r6, o5⟩ h
      refine z_po (pc' := 28) (st' := [.int r6]) (v := (some (.int r6))) (L' := [(75, some 0, fun _ => o5), (91, none, (I 91)), (93, none, (I 93)), (94, none, (I 94))]) (K' := []) zco_219 rfl rfl rfl rfl rfl rfl rfl rfl ?_
      refine g_if_ne (pc' := 31) hc rfl rfl (fun hx => ?_) (fun hx => ?_)
      · replace h := zwp_f h hx
        refine g_iconst (pc' := 34) (v := (0 : Int32)) hc rfl zki_0 rfl ?_
        refine g_istore (pc' := 36) (ls1 := [some (.ref 75), some (.int a1), some (.int a2), some (.int a3), some (.int (0 : Int32))]) hc rfl (zlt rfl) rfl rfl ?_
        refine zjs (G := (fun (g : (Nat → Int32) × (Nat → Int32) × (Nat → Int32)) => match g with | (y12, y13, y14) => ∀ z11 : Option Value, znl z11 = true → pm_ev C_X12_toStop (d + 1) (pm_call M cost zext d) cost (false, false) 108 0 0 Q 85 [some (.ref 75), some (.int a1), some (.int a2), some (.int a3), z11] [] 0 0 (zS p q I [(75, some 0, fun _ => o5), (91, none, y13), (93, none, y14), (94, none, y12)] J []))) h ?_ (fun h => ?_)
        · rintro ⟨y12, y13, y14⟩ h z11 hz11
          refine g_iconst (pc' := 86) (v := (-1 : Int32)) hc rfl zki_m1 rfl ?_
          replace h := zws h
          exact g_ireturn hc rfl rfl rfl (fun _ => ⟨rfl, rfl⟩) h
        refine zitr_ev (G := (fun (g : Int32 × (Nat → Int32) × (Nat → Int32) × (Nat → Int32)) => match g with | (x7, x8, x9, x10) => pm_ev C_X12_toStop (d + 1) (pm_call M cost zext d) cost (false, false) 108 0 0 Q 36 [some (.ref 75), some (.int a1), some (.int a2), some (.int a3), some (.int x7)] [] 0 0 (zS p q I [(75, some 0, fun _ => o5), (91, none, x9), (93, none, x10), (94, none, x8)] J []))) ?_ zFU ((0 : Int32), (I 94), (I 91), (I 93)) h
        rintro ⟨x7, x8, x9, x10⟩ h
        refine g_iload (pc' := 38)  hc rfl rfl rfl ?_
        refine g_bipush (pc' := 40) (v := (10 : Int32)) hc rfl zkb_10 rfl ?_
        refine g_icmp_ge (pc' := 43) hc rfl rfl (fun hx => ?_) (fun hx => ?_)
        · replace h := zwp_t h hx
          replace h := zwp_r h
          exact h (some (.int x7)) rfl
        · replace h := zwp_f h hx
          refine g_aload_n (pc' := 44)  hc rfl rfl rfl rfl ?_
          refine z_virt (as := []) (a := 75) (r := []) hc rfl rfl rfl rfl sh_75 rfl zco_196 rfl rfl rfl ?_
          refine ok_X12_tries_75 (zdp hd rfl) (zwp_mono (zwp_bind h) ?_)
          rintro o15 h
          refine z_po (pc' := 47) (st' := []) (v := none) (L' := [(75, some 0, fun _ => o5), (91, none, o15), (93, none, x10), (94, none, x8)]) (K' := []) zco_196 rfl rfl rfl rfl rfl rfl rfl rfl ?_
          refine g_aload_n (pc' := 48)  hc rfl rfl rfl rfl ?_
          refine z_getR (pc' := 51)  hc rfl rfl rfl sh_75 rfl rfl ?_
          refine g_bipush (pc' := 53) (v := (87 : Int32)) hc rfl zkb_87 rfl ?_
          refine g_iload_n (pc' := 54)  hc rfl rfl rfl ?_
          refine g_iadd (pc' := 55)  hc rfl rfl ?_
          refine g_iload (pc' := 57)  hc rfl rfl rfl ?_
          have hb := (zwp_bnd h).1
          replace h := (zwp_bnd h).2
          refine z_iastore (pc' := 58) (g := o15) (L' := [(75, some 0, fun _ => o5), (91, none, (upd o15 ((87 : Int32) + a1).toNatClampNeg x7)), (93, none, x10), (94, none, x8)]) hc rfl rfl sh_91 hb rfl rfl rfl rfl ?_
          refine g_aload_n (pc' := 59)  hc rfl rfl rfl rfl ?_
          refine g_iload_n (pc' := 60)  hc rfl rfl rfl ?_
          refine z_virt (as := [.int a3]) (a := 75) (r := []) hc rfl rfl rfl rfl sh_75 rfl zco_210 rfl rfl rfl ?_
          refine ok_X12_hoursGo_75 (zdp hd rfl) (zwp_mono (zwp_bind h) ?_)
          rintro ⟨o16, o17, o18⟩ h
          refine z_po (pc' := 63) (st' := []) (v := none) (L' := [(75, some 0, fun _ => o5), (91, none, o17), (93, none, o18), (94, none, o16)]) (K' := []) zco_210 rfl rfl rfl rfl rfl rfl rfl rfl ?_
          refine g_aload_n (pc' := 64)  hc rfl rfl rfl rfl ?_
          refine z_getR (pc' := 67)  hc rfl rfl rfl sh_75 rfl rfl ?_
          refine g_bipush (pc' := 69) (v := (71 : Int32)) hc rfl zkb_71 rfl ?_
          refine g_iload_n (pc' := 70)  hc rfl rfl rfl ?_
          refine g_iadd (pc' := 71)  hc rfl rfl ?_
          have hb := (zwp_bnd h).1
          replace h := (zwp_bnd h).2
          refine z_iaload (pc' := 72) (v := (o17 ((71 : Int32) + a1).toNatClampNeg)) hc rfl rfl sh_91 hb rfl rfl ?_
          refine g_iload_n (pc' := 73)  hc rfl rfl rfl ?_
          refine g_icmp_ne (pc' := 76) hc rfl rfl (fun hx => ?_) (fun hx => ?_)
          · replace h := zwp_f h hx
            refine g_iinc (pc' := 82) (ls1 := [some (.ref 75), some (.int a1), some (.int a2), some (.int a3), some (.int (x7 + (1 : Int32)))]) hc rfl rfl zki_1 (zlt rfl) rfl rfl ?_
            refine g_goto hc rfl ?_
            replace h := zwp_l h
            exact h
          · replace h := zwp_t h hx
            refine g_iload (pc' := 78)  hc rfl rfl rfl ?_
            replace h := zws h
            exact g_ireturn hc rfl rfl rfl (fun _ => ⟨rfl, rfl⟩) h
      · replace h := zwp_t h hx
        refine g_iconst (pc' := 32) (v := (0 : Int32)) hc rfl zki_0 rfl ?_
        replace h := zws h
        exact g_ireturn hc rfl rfl rfl (fun _ => ⟨rfl, rfl⟩) h
set_option maxRecDepth 4000 in
theorem ok_X12_toThin_75 {p q : Nat} {I : pI} {J : pJ} {a1 : Int32} {Q : pQ} {d : Nat} (hd : 7 ≤ d) (h : zwp (f_X12_toThin a1 (I 80) (I 75 6) (I 75 53) (I 75 3) (I 75 7) (I 75 8) (I 79) (I 75 5) (I 98) (I 94) (I 91) (I 75 2) (I 75 0) (I 93) (I 76) (I 77) (I 75 1)) (fun w => match w with | (r, o0, o1, o2, o3, o4) => Q (.inl (some (.int r))) (zS p q I [(75, some 0, fun _ => o3), (91, none, o2), (93, none, o4), (94, none, o1), (98, none, o0)] J []))) : pm_call M cost zext d 245 [.ref 75, .int a1] (pm_st 108 (shp p q) I J) Q := by
  obtain ⟨d, rfl⟩ := zd1 hd rfl
  have hc := pm_call_m (M := M) (cost := cost) zext_m d
  refine z_in (L := [(75, some 0, fun _ => (I 75 0)), (91, none, (I 91)), (93, none, (I 93)), (94, none, (I 94)), (98, none, (I 98))]) (K := []) (ls := [some (.ref 75), some (.int a1), none, none, none, none]) zmt_245 zco_245 rfl rfl (zid_s (zid_a (zid_a (zid_a (zid_a zid_n))))) zid_n ?_
  delta f_X12_toThin at h
  refine g_aload_n (pc' := 1)  hc rfl rfl rfl rfl ?_
  refine g_iconst (pc' := 2) (v := (0 : Int32)) hc rfl zki_0 rfl ?_
  refine z_putI (pc' := 5) (L' := [(75, some 0, fun _ => (0 : Int32)), (91, none, (I 91)), (93, none, (I 93)), (94, none, (I 94)), (98, none, (I 98))]) hc rfl rfl rfl sh_75 rfl zft_12_0 rfl (fun h => Bool.noConfusion h) rfl rfl rfl ?_
  refine g_aload_n (pc' := 6)  hc rfl rfl rfl rfl ?_
  refine g_iload_n (pc' := 7)  hc rfl rfl rfl ?_
  refine g_iconst (pc' := 8) (v := (0 : Int32)) hc rfl zki_0 rfl ?_
  refine g_bipush (pc' := 10) (v := (60 : Int32)) hc rfl zkb_60 rfl ?_
  refine z_stat (as := [.int a1, .int (0 : Int32), .int (60 : Int32)]) (r := [.ref 75]) hc rfl rfl rfl rfl zco_154 rfl rfl rfl ?_
  refine ok_X12_within (zdp hd rfl) (zwp_mono (zwp_bind h) ?_)
  rintro r1 h
  refine z_po (pc' := 13) (st' := [.int r1, .ref 75]) (v := (some (.int r1))) (L' := [(75, some 0, fun _ => (0 : Int32)), (91, none, (I 91)), (93, none, (I 93)), (94, none, (I 94)), (98, none, (I 98))]) (K' := []) zco_154 rfl rfl rfl rfl rfl rfl rfl rfl ?_
  refine g_iconst (pc' := 14) (v := (1 : Int32)) hc rfl zki_1 rfl ?_
  refine z_virt (as := [.int r1, .int (1 : Int32)]) (a := 75) (r := []) hc rfl rfl rfl rfl sh_75 rfl zco_153 rfl rfl rfl ?_
  refine ok_X12_right_75 (zdp hd rfl) (zwp_mono (zwp_bind h) ?_)
  rintro ⟨r3, o2⟩ h
  refine z_po (pc' := 17) (st' := [.int r3]) (v := (some (.int r3))) (L' := [(75, some 0, fun _ => o2), (91, none, (I 91)), (93, none, (I 93)), (94, none, (I 94)), (98, none, (I 98))]) (K' := []) zco_153 rfl rfl rfl rfl rfl rfl rfl rfl ?_
  refine g_if_ne (pc' := 20) hc rfl rfl (fun hx => ?_) (fun hx => ?_)
  · replace h := zwp_f h hx
    refine g_iconst (pc' := 23) (v := (0 : Int32)) hc rfl zki_0 rfl ?_
    refine g_istore_n (pc' := 24) (ls1 := [some (.ref 75), some (.int a1), some (.int (0 : Int32)), none, none, none]) hc rfl (zlt rfl) rfl rfl ?_
    refine zjn (G := (fun (y7 : (Nat → Int32)) => ∀ z6 : Option Value, znl z6 = true → pm_ev C_X12_toThin (d + 1) (pm_call M cost zext d) cost (false, false) 108 0 0 Q 43 [some (.ref 75), some (.int a1), z6, none, none, none] [] 0 0 (zS p q I [(75, some 0, fun _ => o2), (91, none, (I 91)), (93, none, (I 93)), (94, none, (I 94)), (98, none, y7)] J []))) (zwp_bind h) ?_ (fun h => ?_)
    · rintro y7 h z6 hz6
      refine g_aload_n (pc' := 44)  hc rfl rfl rfl rfl ?_
      refine z_virt (as := []) (a := 75) (r := []) hc rfl rfl rfl rfl sh_75 rfl zco_196 rfl rfl rfl ?_
      refine ok_X12_tries_75 (zdp hd rfl) (zwp_mono (zwp_bind h) ?_)
      rintro o8 h
      refine z_po (pc' := 47) (st' := []) (v := none) (L' := [(75, some 0, fun _ => o2), (91, none, o8), (93, none, (I 93)), (94, none, (I 94)), (98, none, y7)]) (K' := []) zco_196 rfl rfl rfl rfl rfl rfl rfl rfl ?_
      refine g_iconst (pc' := 48) (v := (0 : Int32)) hc rfl zki_0 rfl ?_
      refine g_istore_n (pc' := 49) (ls1 := [some (.ref 75), some (.int a1), some (.int (0 : Int32)), none, none, none]) hc rfl (zlt rfl) rfl rfl ?_
      refine zjn (G := (fun (g : (Nat → Int32) × (Nat → Int32) × (Nat → Int32) × (Nat → Int32)) => match g with | (y17, y18, y19, y20) => ∀ z15 : Option Value, znl z15 = true → ∀ z16 : Option Value, znl z16 = true → pm_ev C_X12_toThin (d + 1) (pm_call M cost zext d) cost (false, false) 108 0 0 Q 112 [some (.ref 75), some (.int a1), z15, z16, none, none] [] 0 0 (zS p q I [(75, some 0, fun _ => o2), (91, none, y19), (93, none, y20), (94, none, y18), (98, none, y17)] J []))) (zwp_bind h) ?_ (fun h => ?_)
      · rintro ⟨y17, y18, y19, y20⟩ h z15 hz15 z16 hz16
        refine g_iconst (pc' := 113) (v := (-1 : Int32)) hc rfl zki_m1 rfl ?_
        refine g_istore_n (pc' := 114) (ls1 := [some (.ref 75), some (.int a1), some (.int (-1 : Int32)), z16, none, none]) hc rfl (zlt rfl) rfl rfl ?_
        refine g_iconst (pc' := 115) (v := (0 : Int32)) hc rfl zki_0 rfl ?_
        refine g_istore_n (pc' := 116) (ls1 := [some (.ref 75), some (.int a1), some (.int (-1 : Int32)), some (.int (0 : Int32)), none, none]) hc rfl (zlt rfl) rfl rfl ?_
        refine zjn (G := (fun (y25 : Int32) => ∀ z26 : Option Value, znl z26 = true → ∀ z27 : Option Value, znl z27 = true → ∀ z28 : Option Value, znl z28 = true → pm_ev C_X12_toThin (d + 1) (pm_call M cost zext d) cost (false, false) 108 0 0 Q 212 [some (.ref 75), some (.int a1), some (.int y25), z26, z27, z28] [] 0 0 (zS p q I [(75, some 0, fun _ => o2), (91, none, y19), (93, none, y20), (94, none, y18), (98, none, y17)] J []))) (zwp_bind h) ?_ (fun h => ?_)
        · rintro y25 h z26 hz26 z27 hz27 z28 hz28
          refine g_iload_n (pc' := 213)  hc rfl rfl rfl ?_
          replace h := zws h
          exact g_ireturn hc rfl rfl rfl (fun _ => ⟨rfl, rfl⟩) h
        refine zitr_ev (G := (fun (g : Int32 × Int32) => match g with | (x21, x22) => ∀ z23 : Option Value, znl z23 = true → ∀ z24 : Option Value, znl z24 = true → pm_ev C_X12_toThin (d + 1) (pm_call M cost zext d) cost (false, false) 108 0 0 Q 116 [some (.ref 75), some (.int a1), some (.int x21), some (.int x22), z23, z24] [] 0 0 (zS p q I [(75, some 0, fun _ => o2), (91, none, y19), (93, none, y20), (94, none, y18), (98, none, y17)] J []))) ?_ zFU ((-1 : Int32), (0 : Int32)) h none rfl none rfl
        rintro ⟨x21, x22⟩ h z23 hz23 z24 hz24
        refine g_iload_n (pc' := 117)  hc rfl rfl rfl ?_
        refine g_iconst (pc' := 118) (v := (1 : Int32)) hc rfl zki_1 rfl ?_
        refine g_aload_n (pc' := 119)  hc rfl rfl rfl rfl ?_
        refine z_getI (pc' := 122) (v := (I 75 3)) hc rfl rfl rfl sh_75 rfl rfl rfl ?_
        refine g_ishl (pc' := 123)  hc rfl rfl ?_
        refine g_icmp_ge (pc' := 126) hc rfl rfl (fun hx => ?_) (fun hx => ?_)
        · replace h := zwp_t h hx
          replace h := zwp_r h
          exact h (some (.int x22)) rfl z23 hz23 z24 hz24
        · replace h := zwp_f h hx
          refine g_iconst (pc' := 127) (v := (1 : Int32)) hc rfl zki_1 rfl ?_
          refine g_istore (pc' := 129) (ls1 := [some (.ref 75), some (.int a1), some (.int x21), some (.int x22), some (.int (1 : Int32)), z24]) hc rfl (zlt rfl) rfl rfl ?_
          refine g_iconst (pc' := 130) (v := (0 : Int32)) hc rfl zki_0 rfl ?_
          refine g_istore (pc' := 132) (ls1 := [some (.ref 75), some (.int a1), some (.int x21), some (.int x22), some (.int (1 : Int32)), some (.int (0 : Int32))]) hc rfl (zlt rfl) rfl rfl ?_
          refine zjn (G := (fun (y31 : Int32) => ∀ z32 : Option Value, znl z32 = true → pm_ev C_X12_toThin (d + 1) (pm_call M cost zext d) cost (false, false) 108 0 0 Q 183 [some (.ref 75), some (.int a1), some (.int x21), some (.int x22), some (.int y31), z32] [] 0 0 (zS p q I [(75, some 0, fun _ => o2), (91, none, y19), (93, none, y20), (94, none, y18), (98, none, y17)] J []))) (zwp_bind h) ?_ (fun h => ?_)
          · rintro y31 h z32 hz32
            refine g_iload (pc' := 185)  hc rfl rfl rfl ?_
            refine g_if_eq (pc' := 188) hc rfl rfl (fun hx => ?_) (fun hx => ?_)
            · replace h := zwp_t h hx
              refine g_iinc (pc' := 209) (ls1 := [some (.ref 75), some (.int a1), some (.int x21), some (.int (x22 + (1 : Int32))), some (.int y31), z32]) hc rfl rfl zki_1 (zlt rfl) rfl rfl ?_
              refine g_goto hc rfl ?_
              replace h := zwp_l h
              exact h (some (.int y31)) rfl z32 hz32
            · replace h := zwp_f h hx
              refine g_iload_n (pc' := 189)  hc rfl rfl rfl ?_
              refine g_iconst (pc' := 190) (v := (-1 : Int32)) hc rfl zki_m1 rfl ?_
              refine g_icmp_eq (pc' := 193) hc rfl rfl (fun hx => ?_) (fun hx => ?_)
              · replace h := zwp_t h hx
                refine g_iload_n (pc' := 205)  hc rfl rfl rfl ?_
                refine g_istore_n (pc' := 206) (ls1 := [some (.ref 75), some (.int a1), some (.int x22), some (.int x22), some (.int y31), z32]) hc rfl (zlt rfl) rfl rfl ?_
                refine g_iinc (pc' := 209) (ls1 := [some (.ref 75), some (.int a1), some (.int x22), some (.int (x22 + (1 : Int32))), some (.int y31), z32]) hc rfl rfl zki_1 (zlt rfl) rfl rfl ?_
                refine g_goto hc rfl ?_
                replace h := zwp_l h
                exact h (some (.int y31)) rfl z32 hz32
              · replace h := zwp_f h hx
                refine g_iload_n (pc' := 194)  hc rfl rfl rfl ?_
                refine z_stat (as := [.int x22]) (r := []) hc rfl rfl rfl rfl zco_158 rfl rfl rfl ?_
                refine ok_X12_bits (zdp hd rfl) (zwp_mono (zwp_bind h) ?_)
                rintro r33 h
                refine z_po (pc' := 197) (st' := [.int r33]) (v := (some (.int r33))) (L' := [(75, some 0, fun _ => o2), (91, none, y19), (93, none, y20), (94, none, y18), (98, none, y17)]) (K' := []) zco_158 rfl rfl rfl rfl rfl rfl rfl rfl ?_
                refine g_iload_n (pc' := 198)  hc rfl rfl rfl ?_
                refine z_stat (as := [.int x21]) (r := [.int r33]) hc rfl rfl rfl rfl zco_158 rfl rfl rfl ?_
                refine ok_X12_bits (zdp hd rfl) (zwp_mono (zwp_bind h) ?_)
                rintro r34 h
                refine z_po (pc' := 201) (st' := [.int r34, .int r33]) (v := (some (.int r34))) (L' := [(75, some 0, fun _ => o2), (91, none, y19), (93, none, y20), (94, none, y18), (98, none, y17)]) (K' := []) zco_158 rfl rfl rfl rfl rfl rfl rfl rfl ?_
                refine g_icmp_ge (pc' := 204) hc rfl rfl (fun hx => ?_) (fun hx => ?_)
                · replace h := zwp_t h hx
                  refine g_iinc (pc' := 209) (ls1 := [some (.ref 75), some (.int a1), some (.int x21), some (.int (x22 + (1 : Int32))), some (.int y31), z32]) hc rfl rfl zki_1 (zlt rfl) rfl rfl ?_
                  refine g_goto hc rfl ?_
                  replace h := zwp_l h
                  exact h (some (.int y31)) rfl z32 hz32
                · replace h := zwp_f h hx
                  refine g_iload_n (pc' := 205)  hc rfl rfl rfl ?_
                  refine g_istore_n (pc' := 206) (ls1 := [some (.ref 75), some (.int a1), some (.int x22), some (.int x22), some (.int y31), z32]) hc rfl (zlt rfl) rfl rfl ?_
                  refine g_iinc (pc' := 209) (ls1 := [some (.ref 75), some (.int a1), some (.int x22), some (.int (x22 + (1 : Int32))), some (.int y31), z32]) hc rfl rfl zki_1 (zlt rfl) rfl rfl ?_
                  refine g_goto hc rfl ?_
                  replace h := zwp_l h
                  exact h (some (.int y31)) rfl z32 hz32
          refine zitr_ev (G := (fun (g : Int32 × Int32) => match g with | (x29, x30) => pm_ev C_X12_toThin (d + 1) (pm_call M cost zext d) cost (false, false) 108 0 0 Q 132 [some (.ref 75), some (.int a1), some (.int x21), some (.int x22), some (.int x29), some (.int x30)] [] 0 0 (zS p q I [(75, some 0, fun _ => o2), (91, none, y19), (93, none, y20), (94, none, y18), (98, none, y17)] J []))) ?_ zFU ((1 : Int32), (0 : Int32)) h
          rintro ⟨x29, x30⟩ h
          refine g_iload (pc' := 134)  hc rfl rfl rfl ?_
          refine g_aload_n (pc' := 135)  hc rfl rfl rfl rfl ?_
          refine z_getI (pc' := 138) (v := (I 75 3)) hc rfl rfl rfl sh_75 rfl rfl rfl ?_
          refine g_icmp_ge (pc' := 141) hc rfl rfl (fun hx => ?_) (fun hx => ?_)
          · replace h := zwp_t h hx
            replace h := zwp_r h
            exact h (some (.int x30)) rfl
          · replace h := zwp_f h hx
            refine g_iload (pc' := 143)  hc rfl rfl rfl ?_
            refine zjn (G := (fun (j35 : Int32) => pm_ev C_X12_toThin (d + 1) (pm_call M cost zext d) cost (false, false) 108 0 0 Q 175 [some (.ref 75), some (.int a1), some (.int x21), some (.int x22), some (.int x29), some (.int x30)] [.int j35] 0 0 (zS p q I [(75, some 0, fun _ => o2), (91, none, y19), (93, none, y20), (94, none, y18), (98, none, y17)] J []))) (zwp_bind h) ?_ (fun h => ?_)
            · rintro j35 h
              refine g_istore (pc' := 177) (ls1 := [some (.ref 75), some (.int a1), some (.int x21), some (.int x22), some (.int j35), some (.int x30)]) hc rfl (zlt rfl) rfl rfl ?_
              refine g_iinc (pc' := 180) (ls1 := [some (.ref 75), some (.int a1), some (.int x21), some (.int x22), some (.int j35), some (.int (x30 + (1 : Int32)))]) hc rfl rfl zki_1 (zlt rfl) rfl rfl ?_
              refine g_goto hc rfl ?_
              replace h := zwp_l h
              exact h
            refine g_if_eq (pc' := 146) hc rfl rfl (fun hx => ?_) (fun hx => ?_)
            · replace h := zwp_t h hx
              refine g_iconst (pc' := 175) (v := (0 : Int32)) hc rfl zki_0 rfl ?_
              replace h := zws h
              exact h
            · replace h := zwp_f h hx
              refine g_iload_n (pc' := 147)  hc rfl rfl rfl ?_
              refine g_iload (pc' := 149)  hc rfl rfl rfl ?_
              refine g_ishr (pc' := 150)  hc rfl rfl ?_
              refine g_iconst (pc' := 151) (v := (1 : Int32)) hc rfl zki_1 rfl ?_
              refine g_iand (pc' := 152)  hc rfl rfl ?_
              refine g_iconst (pc' := 153) (v := (1 : Int32)) hc rfl zki_1 rfl ?_
              refine g_icmp_eq (pc' := 156) hc rfl rfl (fun hx => ?_) (fun hx => ?_)
              · replace h := zwp_t h hx
                refine g_iconst (pc' := 171) (v := (1 : Int32)) hc rfl zki_1 rfl ?_
                refine g_goto hc rfl ?_
                replace h := zws h
                exact h
              · replace h := zwp_f h hx
                refine g_aload_n (pc' := 157)  hc rfl rfl rfl rfl ?_
                refine z_getR (pc' := 160)  hc rfl rfl rfl sh_75 rfl rfl ?_
                refine g_iload (pc' := 162)  hc rfl rfl rfl ?_
                have hb := (zwp_bnd h).1
                replace h := (zwp_bnd h).2
                refine z_iaload (pc' := 163) (v := (y17 x30.toNatClampNeg)) hc rfl rfl sh_98 hb rfl rfl ?_
                refine g_iload_n (pc' := 164)  hc rfl rfl rfl ?_
                refine g_iconst (pc' := 165) (v := (-1 : Int32)) hc rfl zki_m1 rfl ?_
                refine g_ixor (pc' := 166)  hc rfl rfl ?_
                refine g_iand (pc' := 167)  hc rfl rfl ?_
                refine g_if_ne (pc' := 170) hc rfl rfl (fun hx => ?_) (fun hx => ?_)
                · replace h := zwp_f h hx
                  refine g_iconst (pc' := 175) (v := (0 : Int32)) hc rfl zki_0 rfl ?_
                  replace h := zws h
                  exact h
                · replace h := zwp_t h hx
                  refine g_iconst (pc' := 171) (v := (1 : Int32)) hc rfl zki_1 rfl ?_
                  refine g_goto hc rfl ?_
                  replace h := zws h
                  exact h
      refine zitr_ev (G := (fun (g : Int32 × (Nat → Int32) × (Nat → Int32) × (Nat → Int32) × (Nat → Int32)) => match g with | (x9, x11, x12, x13, x14) => ∀ z10 : Option Value, znl z10 = true → pm_ev C_X12_toThin (d + 1) (pm_call M cost zext d) cost (false, false) 108 0 0 Q 49 [some (.ref 75), some (.int a1), some (.int x9), z10, none, none] [] 0 0 (zS p q I [(75, some 0, fun _ => o2), (91, none, x13), (93, none, x14), (94, none, x12), (98, none, x11)] J []))) ?_ zFU ((0 : Int32), y7, (I 94), o8, (I 93)) h none rfl
      rintro ⟨x9, x11, x12, x13, x14⟩ h z10 hz10
      refine g_iload_n (pc' := 50)  hc rfl rfl rfl ?_
      refine g_iload_n (pc' := 51)  hc rfl rfl rfl ?_
      refine g_icmp_gt (pc' := 54) hc rfl rfl (fun hx => ?_) (fun hx => ?_)
      · replace h := zwp_t h hx
        replace h := zwp_r h
        exact h (some (.int x9)) rfl z10 hz10
      · replace h := zwp_f h hx
        refine g_iconst (pc' := 55) (v := (0 : Int32)) hc rfl zki_0 rfl ?_
        refine g_istore_n (pc' := 56) (ls1 := [some (.ref 75), some (.int a1), some (.int x9), some (.int (0 : Int32)), none, none]) hc rfl (zlt rfl) rfl rfl ?_
        refine zjn (G := (fun (y39 : (Nat → Int32)) => ∀ z38 : Option Value, znl z38 = true → pm_ev C_X12_toThin (d + 1) (pm_call M cost zext d) cost (false, false) 108 0 0 Q 100 [some (.ref 75), some (.int a1), some (.int x9), z38, none, none] [] 0 0 (zS p q I [(75, some 0, fun _ => o2), (91, none, x13), (93, none, x14), (94, none, x12), (98, none, y39)] J []))) (zwp_bind h) ?_ (fun h => ?_)
        · rintro y39 h z38 hz38
          refine g_aload_n (pc' := 101)  hc rfl rfl rfl rfl ?_
          refine g_bipush (pc' := 103) (v := (70 : Int32)) hc rfl zkb_70 rfl ?_
          refine z_virt (as := [.int (70 : Int32)]) (a := 75) (r := []) hc rfl rfl rfl rfl sh_75 rfl zco_209 rfl rfl rfl ?_
          refine ok_X12_hourGoes_75 (zdp hd rfl) (zwp_mono (zwp_bind h) ?_)
          rintro ⟨o40, o41, o42⟩ h
          refine z_po (pc' := 106) (st' := []) (v := none) (L' := [(75, some 0, fun _ => o2), (91, none, o41), (93, none, o42), (94, none, o40), (98, none, y39)]) (K' := []) zco_209 rfl rfl rfl rfl rfl rfl rfl rfl ?_
          refine g_iinc (pc' := 109) (ls1 := [some (.ref 75), some (.int a1), some (.int (x9 + (1 : Int32))), z38, none, none]) hc rfl rfl zki_1 (zlt rfl) rfl rfl ?_
          refine g_goto hc rfl ?_
          replace h := zwp_l h
          exact h z38 hz38
        refine zitr_ev (G := (fun (g : Int32 × (Nat → Int32)) => match g with | (x36, x37) => pm_ev C_X12_toThin (d + 1) (pm_call M cost zext d) cost (false, false) 108 0 0 Q 56 [some (.ref 75), some (.int a1), some (.int x9), some (.int x36), none, none] [] 0 0 (zS p q I [(75, some 0, fun _ => o2), (91, none, x13), (93, none, x14), (94, none, x12), (98, none, x37)] J []))) ?_ zFU ((0 : Int32), x11) h
        rintro ⟨x36, x37⟩ h
        refine g_iload_n (pc' := 57)  hc rfl rfl rfl ?_
        refine g_aload_n (pc' := 58)  hc rfl rfl rfl rfl ?_
        refine z_getI (pc' := 61) (v := (I 75 3)) hc rfl rfl rfl sh_75 rfl rfl rfl ?_
        refine g_icmp_ge (pc' := 64) hc rfl rfl (fun hx => ?_) (fun hx => ?_)
        · replace h := zwp_t h hx
          replace h := zwp_r h
          exact h (some (.int x36)) rfl
        · replace h := zwp_f h hx
          refine g_aload_n (pc' := 65)  hc rfl rfl rfl rfl ?_
          refine z_getR (pc' := 68)  hc rfl rfl rfl sh_75 rfl rfl ?_
          refine g_iload_n (pc' := 69)  hc rfl rfl rfl ?_
          refine g_dup2 (pc' := 70)  hc rfl rfl rfl rfl ?_
          have hb := (zwp_bnd h).1
          replace h := (zwp_bnd h).2
          refine z_iaload (pc' := 71) (v := (x37 x36.toNatClampNeg)) hc rfl rfl sh_98 hb rfl rfl ?_
          refine g_aload_n (pc' := 72)  hc rfl rfl rfl rfl ?_
          refine g_bipush (pc' := 74) (v := (70 : Int32)) hc rfl zkb_70 rfl ?_
          refine g_aload_n (pc' := 75)  hc rfl rfl rfl rfl ?_
          refine z_getR (pc' := 78)  hc rfl rfl rfl sh_75 rfl rfl ?_
          refine g_bipush (pc' := 80) (v := (71 : Int32)) hc rfl zkb_71 rfl ?_
          refine g_iload_n (pc' := 81)  hc rfl rfl rfl ?_
          refine g_iadd (pc' := 82)  hc rfl rfl ?_
          have hb := (zwp_bnd h).1
          replace h := (zwp_bnd h).2
          refine z_iaload (pc' := 83) (v := (x13 ((71 : Int32) + x36).toNatClampNeg)) hc rfl rfl sh_91 hb rfl rfl ?_
          refine z_virt (as := [.int (70 : Int32), .int (x13 ((71 : Int32) + x36).toNatClampNeg)]) (a := 75) (r := [.int (x37 x36.toNatClampNeg), .int x36, .ref 98]) hc rfl rfl rfl rfl sh_75 rfl zco_201 rfl rfl rfl ?_
          refine ok_X12_atCell_75 (zdp hd rfl) (zwp_mono (zwp_bind h) ?_)
          rintro r43 h
          refine z_po (pc' := 86) (st' := [.int r43, .int (x37 x36.toNatClampNeg), .int x36, .ref 98]) (v := (some (.int r43))) (L' := [(75, some 0, fun _ => o2), (91, none, x13), (93, none, x14), (94, none, x12), (98, none, x37)]) (K' := []) zco_201 rfl rfl rfl rfl rfl rfl rfl rfl ?_
          refine g_iconst (pc' := 87) (v := (1 : Int32)) hc rfl zki_1 rfl ?_
          refine g_iload_n (pc' := 88)  hc rfl rfl rfl ?_
          refine g_ishl (pc' := 89)  hc rfl rfl ?_
          refine g_iconst (pc' := 90) (v := (-1 : Int32)) hc rfl zki_m1 rfl ?_
          refine g_ixor (pc' := 91)  hc rfl rfl ?_
          refine g_iand (pc' := 92)  hc rfl rfl ?_
          refine g_ior (pc' := 93)  hc rfl rfl ?_
          have hb := (zwp_bnd h).1
          replace h := (zwp_bnd h).2
          refine z_iastore (pc' := 94) (g := x37) (L' := [(75, some 0, fun _ => o2), (91, none, x13), (93, none, x14), (94, none, x12), (98, none, (upd x37 x36.toNatClampNeg ((x37 x36.toNatClampNeg) ||| (r43 &&& (((1 : Int32) <<< (x36 &&& 31)) ^^^ (-1 : Int32))))))]) hc rfl rfl sh_98 hb rfl rfl rfl rfl ?_
          refine g_iinc (pc' := 97) (ls1 := [some (.ref 75), some (.int a1), some (.int x9), some (.int (x36 + (1 : Int32))), none, none]) hc rfl rfl zki_1 (zlt rfl) rfl rfl ?_
          refine g_goto hc rfl ?_
          replace h := zwp_l h
          exact h
    refine zitr_ev (G := (fun (g : Int32 × (Nat → Int32)) => match g with | (x4, x5) => pm_ev C_X12_toThin (d + 1) (pm_call M cost zext d) cost (false, false) 108 0 0 Q 24 [some (.ref 75), some (.int a1), some (.int x4), none, none, none] [] 0 0 (zS p q I [(75, some 0, fun _ => o2), (91, none, (I 91)), (93, none, (I 93)), (94, none, (I 94)), (98, none, x5)] J []))) ?_ zFU ((0 : Int32), (I 98)) h
    rintro ⟨x4, x5⟩ h
    refine g_iload_n (pc' := 25)  hc rfl rfl rfl ?_
    refine g_bipush (pc' := 27) (v := (8 : Int32)) hc rfl zkb_8 rfl ?_
    refine g_icmp_ge (pc' := 30) hc rfl rfl (fun hx => ?_) (fun hx => ?_)
    · replace h := zwp_t h hx
      replace h := zwp_r h
      exact h (some (.int x4)) rfl
    · replace h := zwp_f h hx
      refine g_aload_n (pc' := 31)  hc rfl rfl rfl rfl ?_
      refine z_getR (pc' := 34)  hc rfl rfl rfl sh_75 rfl rfl ?_
      refine g_iload_n (pc' := 35)  hc rfl rfl rfl ?_
      refine g_iconst (pc' := 36) (v := (0 : Int32)) hc rfl zki_0 rfl ?_
      have hb := (zwp_bnd h).1
      replace h := (zwp_bnd h).2
      refine z_iastore (pc' := 37) (g := x5) (L' := [(75, some 0, fun _ => o2), (91, none, (I 91)), (93, none, (I 93)), (94, none, (I 94)), (98, none, (upd x5 x4.toNatClampNeg (0 : Int32)))]) hc rfl rfl sh_98 hb rfl rfl rfl rfl ?_
      refine g_iinc (pc' := 40) (ls1 := [some (.ref 75), some (.int a1), some (.int (x4 + (1 : Int32))), none, none, none]) hc rfl rfl zki_1 (zlt rfl) rfl rfl ?_
      refine g_goto hc rfl ?_
      replace h := zwp_l h
      exact h
  · replace h := zwp_t h hx
    refine g_iconst (pc' := 21) (v := (0 : Int32)) hc rfl zki_0 rfl ?_
    replace h := zws h
    exact g_ireturn hc rfl rfl rfl (fun _ => ⟨rfl, rfl⟩) h
set_option maxRecDepth 4000 in
theorem ok_X12_canSit_75 {p q : Nat} {I : pI} {J : pJ} {a1 : Int32} {a2 : Int32} {a3 : Int32} {Q : pQ} {d : Nat} (hd : 1 ≤ d) (h : zwp (f_X12_canSit a1 a2 a3 (I 99)) (fun r => Q (.inl (some (.int r))) (zS p q I [] J []))) : pm_call M cost zext d 247 [.ref 75, .int a1, .int a2, .int a3] (pm_st 108 (shp p q) I J) Q := by
  obtain ⟨d, rfl⟩ := zd1 hd rfl
  have hc := pm_call_m (M := M) (cost := cost) zext_m d
  refine z_in (L := []) (K := []) (ls := [some (.ref 75), some (.int a1), some (.int a2), some (.int a3)]) zmt_247 zco_247 rfl rfl zid_n zid_n ?_
  delta f_X12_canSit at h
  refine g_iload_n (pc' := 1)  hc rfl rfl rfl ?_
  refine g_iload_n (pc' := 2)  hc rfl rfl rfl ?_
  refine g_ishr (pc' := 3)  hc rfl rfl ?_
  refine g_iconst (pc' := 4) (v := (1 : Int32)) hc rfl zki_1 rfl ?_
  refine g_iand (pc' := 5)  hc rfl rfl ?_
  refine g_if_ne (pc' := 8) hc rfl rfl (fun hx => ?_) (fun hx => ?_)
  · replace h := zwp_f h hx
    refine g_iconst (pc' := 30) (v := (0 : Int32)) hc rfl zki_0 rfl ?_
    replace h := zws h
    exact g_ireturn hc rfl rfl rfl (fun _ => ⟨rfl, rfl⟩) h
  · replace h := zwp_t h hx
    refine g_aload_n (pc' := 9)  hc rfl rfl rfl rfl ?_
    refine z_getR (pc' := 12)  hc rfl rfl rfl sh_75 rfl rfl ?_
    refine g_bipush (pc' := 14) (v := (8 : Int32)) hc rfl zkb_8 rfl ?_
    refine g_iload_n (pc' := 15)  hc rfl rfl rfl ?_
    refine g_imul (pc' := 16)  hc rfl rfl ?_
    refine g_iload_n (pc' := 17)  hc rfl rfl rfl ?_
    refine g_iadd (pc' := 18)  hc rfl rfl ?_
    have hb := (zwp_bnd h).1
    replace h := (zwp_bnd h).2
    refine z_iaload (pc' := 19) (v := (((I 99)) (((8 : Int32) * a1) + a2).toNatClampNeg)) hc rfl rfl sh_99 hb rfl rfl ?_
    refine g_sipush (pc' := 22) (v := (9999 : Int32)) hc rfl zks_9999 rfl ?_
    refine g_icmp_ge (pc' := 25) hc rfl rfl (fun hx => ?_) (fun hx => ?_)
    · replace h := zwp_t h hx
      refine g_iconst (pc' := 30) (v := (0 : Int32)) hc rfl zki_0 rfl ?_
      replace h := zws h
      exact g_ireturn hc rfl rfl rfl (fun _ => ⟨rfl, rfl⟩) h
    · replace h := zwp_f h hx
      refine g_iconst (pc' := 26) (v := (1 : Int32)) hc rfl zki_1 rfl ?_
      refine g_goto hc rfl ?_
      replace h := zws h
      exact g_ireturn hc rfl rfl rfl (fun _ => ⟨rfl, rfl⟩) h
set_option maxRecDepth 4000 in
theorem ok_X12_sits_75 {p q : Nat} {I : pI} {J : pJ} {a1 : Int32} {a2 : Int32} {a3 : Int32} {Q : pQ} {d : Nat} (hd : 1 ≤ d) (h : zwp (f_X12_sits a1 a2 a3 (I 100) (I 99)) (fun r => Q (.inl (some (.int r))) (zS p q I [] J []))) : pm_call M cost zext d 246 [.ref 75, .int a1, .int a2, .int a3] (pm_st 108 (shp p q) I J) Q := by
  obtain ⟨d, rfl⟩ := zd1 hd rfl
  have hc := pm_call_m (M := M) (cost := cost) zext_m d
  refine z_in (L := []) (K := []) (ls := [some (.ref 75), some (.int a1), some (.int a2), some (.int a3)]) zmt_246 zco_246 rfl rfl zid_n zid_n ?_
  delta f_X12_sits at h
  refine g_aload_n (pc' := 1)  hc rfl rfl rfl rfl ?_
  refine z_getR (pc' := 4)  hc rfl rfl rfl sh_75 rfl rfl ?_
  refine g_bipush (pc' := 6) (v := (8 : Int32)) hc rfl zkb_8 rfl ?_
  refine g_iload_n (pc' := 7)  hc rfl rfl rfl ?_
  refine g_imul (pc' := 8)  hc rfl rfl ?_
  refine g_iload_n (pc' := 9)  hc rfl rfl rfl ?_
  refine g_iadd (pc' := 10)  hc rfl rfl ?_
  have hb := (zwp_bnd h).1
  replace h := (zwp_bnd h).2
  refine z_iaload (pc' := 11) (v := (((I 99)) (((8 : Int32) * a1) + a2).toNatClampNeg)) hc rfl rfl sh_99 hb rfl rfl ?_
  refine g_aload_n (pc' := 12)  hc rfl rfl rfl rfl ?_
  refine z_getR (pc' := 15)  hc rfl rfl rfl sh_75 rfl rfl ?_
  refine g_sipush (pc' := 18) (v := (256 : Int32)) hc rfl zks_256 rfl ?_
  refine g_iload_n (pc' := 19)  hc rfl rfl rfl ?_
  refine g_iconst (pc' := 20) (v := (1 : Int32)) hc rfl zki_1 rfl ?_
  refine g_iadd (pc' := 21)  hc rfl rfl ?_
  refine g_imul (pc' := 22)  hc rfl rfl ?_
  refine g_iload_n (pc' := 23)  hc rfl rfl rfl ?_
  refine g_iconst (pc' := 24) (v := (1 : Int32)) hc rfl zki_1 rfl ?_
  refine g_iload_n (pc' := 25)  hc rfl rfl rfl ?_
  refine g_ishl (pc' := 26)  hc rfl rfl ?_
  refine g_ior (pc' := 27)  hc rfl rfl ?_
  refine g_iadd (pc' := 28)  hc rfl rfl ?_
  have hb := (zwp_bnd h).1
  replace h := (zwp_bnd h).2
  refine z_iaload (pc' := 29) (v := (((I 100)) (((256 : Int32) * (a1 + (1 : Int32))) + (a3 ||| ((1 : Int32) <<< (a2 &&& 31)))).toNatClampNeg)) hc rfl rfl sh_100 hb rfl rfl ?_
  refine g_iadd (pc' := 30)  hc rfl rfl ?_
  replace h := zws h
  exact g_ireturn hc rfl rfl rfl (fun _ => ⟨rfl, rfl⟩) h
set_option maxRecDepth 4000 in
theorem ok_X12_laysSeats_75 {p q : Nat} {I : pI} {J : pJ} {Q : pQ} {d : Nat} (hd : 3 ≤ d) (h : zwp (f_X12_laysSeats (I 95) (I 75 3) (I 100) (I 96) (I 91) (I 78) (I 99) (I 75 4) (I 75 2) (I 75 1)) (fun w => match w with | (o0, o1, o2, o3) => Q (.inl none) (zS p q I [(95, none, o0), (96, none, o2), (99, none, o3), (100, none, o1)] J []))) : pm_call M cost zext d 248 [.ref 75] (pm_st 108 (shp p q) I J) Q := by
  obtain ⟨d, rfl⟩ := zd1 hd rfl
  have hc := pm_call_m (M := M) (cost := cost) zext_m d
  refine z_in (L := [(95, none, (I 95)), (96, none, (I 96)), (99, none, (I 99)), (100, none, (I 100))]) (K := []) (ls := [some (.ref 75), none, none, none, none]) zmt_248 zco_248 rfl rfl (zid_a (zid_a (zid_a (zid_a zid_n)))) zid_n ?_
  delta f_X12_laysSeats at h
  refine g_iconst (pc' := 1) (v := (0 : Int32)) hc rfl zki_0 rfl ?_
  refine g_istore_n (pc' := 2) (ls1 := [some (.ref 75), some (.int (0 : Int32)), none, none, none]) hc rfl (zlt rfl) rfl rfl ?_
  refine zjn (G := (fun (g : (Nat → Int32) × (Nat → Int32) × (Nat → Int32)) => match g with | (y8, y9, y10) => ∀ z6 : Option Value, znl z6 = true → ∀ z7 : Option Value, znl z7 = true → pm_ev C_X12_laysSeats (d + 1) (pm_call M cost zext d) cost (false, false) 108 0 0 Q 66 [some (.ref 75), z6, z7, none, none] [] 0 0 (zS p q I [(95, none, y8), (96, none, y9), (99, none, y10), (100, none, (I 100))] J []))) (zwp_bind h) ?_ (fun h => ?_)
  · rintro ⟨y8, y9, y10⟩ h z6 hz6 z7 hz7
    refine g_iconst (pc' := 67) (v := (0 : Int32)) hc rfl zki_0 rfl ?_
    refine g_istore_n (pc' := 68) (ls1 := [some (.ref 75), some (.int (0 : Int32)), z7, none, none]) hc rfl (zlt rfl) rfl rfl ?_
    refine zjn (G := (fun (y14 : (Nat → Int32)) => ∀ z13 : Option Value, znl z13 = true → pm_ev C_X12_laysSeats (d + 1) (pm_call M cost zext d) cost (false, false) 108 0 0 Q 97 [some (.ref 75), z13, z7, none, none] [] 0 0 (zS p q I [(95, none, y8), (96, none, y9), (99, none, y10), (100, none, y14)] J []))) (zwp_bind h) ?_ (fun h => ?_)
    · rintro y14 h z13 hz13
      refine g_aload_n (pc' := 98)  hc rfl rfl rfl rfl ?_
      refine z_getI (pc' := 101) (v := (I 75 3)) hc rfl rfl rfl sh_75 rfl rfl rfl ?_
      refine g_iconst (pc' := 102) (v := (1 : Int32)) hc rfl zki_1 rfl ?_
      refine g_isub (pc' := 103)  hc rfl rfl ?_
      refine g_istore_n (pc' := 104) (ls1 := [some (.ref 75), some (.int (((I 75 3)) - (1 : Int32))), z7, none, none]) hc rfl (zlt rfl) rfl rfl ?_
      refine zjn (G := (fun (y24 : (Nat → Int32)) => ∀ z20 : Option Value, znl z20 = true → ∀ z21 : Option Value, znl z21 = true → ∀ z22 : Option Value, znl z22 = true → ∀ z23 : Option Value, znl z23 = true → pm_ev C_X12_laysSeats (d + 1) (pm_call M cost zext d) cost (false, false) 108 0 0 Q 206 [some (.ref 75), z20, z21, z22, z23] [] 0 0 (zS p q I [(95, none, y8), (96, none, y9), (99, none, y10), (100, none, y24)] J []))) (zwp_bind h) ?_ (fun h => ?_)
      · rintro y24 h z20 hz20 z21 hz21 z22 hz22 z23 hz23
        replace h := zws h
        exact g_return hc rfl rfl (fun _ => ⟨rfl, rfl⟩) h
      refine zitr_ev (G := (fun (g : Int32 × (Nat → Int32)) => match g with | (x15, x19) => ∀ z16 : Option Value, znl z16 = true → ∀ z17 : Option Value, znl z17 = true → ∀ z18 : Option Value, znl z18 = true → pm_ev C_X12_laysSeats (d + 1) (pm_call M cost zext d) cost (false, false) 108 0 0 Q 104 [some (.ref 75), some (.int x15), z16, z17, z18] [] 0 0 (zS p q I [(95, none, y8), (96, none, y9), (99, none, y10), (100, none, x19)] J []))) ?_ zFU ((((I 75 3)) - (1 : Int32)), y14) h z7 hz7 none rfl none rfl
      rintro ⟨x15, x19⟩ h z16 hz16 z17 hz17 z18 hz18
      refine g_iload_n (pc' := 105)  hc rfl rfl rfl ?_
      refine g_if_lt (pc' := 108) hc rfl rfl (fun hx => ?_) (fun hx => ?_)
      · replace h := zwp_t h hx
        replace h := zwp_r h
        exact h (some (.int x15)) rfl z16 hz16 z17 hz17 z18 hz18
      · replace h := zwp_f h hx
        refine g_iconst (pc' := 109) (v := (0 : Int32)) hc rfl zki_0 rfl ?_
        refine g_istore_n (pc' := 110) (ls1 := [some (.ref 75), some (.int x15), some (.int (0 : Int32)), z17, z18]) hc rfl (zlt rfl) rfl rfl ?_
        refine zjn (G := (fun (y32 : (Nat → Int32)) => ∀ z29 : Option Value, znl z29 = true → ∀ z30 : Option Value, znl z30 = true → ∀ z31 : Option Value, znl z31 = true → pm_ev C_X12_laysSeats (d + 1) (pm_call M cost zext d) cost (false, false) 108 0 0 Q 200 [some (.ref 75), some (.int x15), z29, z30, z31] [] 0 0 (zS p q I [(95, none, y8), (96, none, y9), (99, none, y10), (100, none, y32)] J []))) (zwp_bind h) ?_ (fun h => ?_)
        · rintro y32 h z29 hz29 z30 hz30 z31 hz31
          refine g_iinc (pc' := 203) (ls1 := [some (.ref 75), some (.int (x15 + (-1 : Int32))), z29, z30, z31]) hc rfl rfl zki_m1 (zlt rfl) rfl rfl ?_
          refine g_goto hc rfl ?_
          replace h := zwp_l h
          exact h z29 hz29 z30 hz30 z31 hz31
        refine zitr_ev (G := (fun (g : Int32 × (Nat → Int32)) => match g with | (x25, x28) => ∀ z26 : Option Value, znl z26 = true → ∀ z27 : Option Value, znl z27 = true → pm_ev C_X12_laysSeats (d + 1) (pm_call M cost zext d) cost (false, false) 108 0 0 Q 110 [some (.ref 75), some (.int x15), some (.int x25), z26, z27] [] 0 0 (zS p q I [(95, none, y8), (96, none, y9), (99, none, y10), (100, none, x28)] J []))) ?_ zFU ((0 : Int32), x19) h z17 hz17 z18 hz18
        rintro ⟨x25, x28⟩ h z26 hz26 z27 hz27
        refine g_iload_n (pc' := 111)  hc rfl rfl rfl ?_
        refine g_iconst (pc' := 112) (v := (1 : Int32)) hc rfl zki_1 rfl ?_
        refine g_aload_n (pc' := 113)  hc rfl rfl rfl rfl ?_
        refine z_getI (pc' := 116) (v := (I 75 4)) hc rfl rfl rfl sh_75 rfl rfl rfl ?_
        refine g_ishl (pc' := 117)  hc rfl rfl ?_
        refine g_icmp_ge (pc' := 120) hc rfl rfl (fun hx => ?_) (fun hx => ?_)
        · replace h := zwp_t h hx
          replace h := zwp_r h
          exact h (some (.int x25)) rfl z26 hz26 z27 hz27
        · replace h := zwp_f h hx
          refine g_sipush (pc' := 123) (v := (1000 : Int32)) hc rfl zks_1000 rfl ?_
          refine g_aload_n (pc' := 124)  hc rfl rfl rfl rfl ?_
          refine z_getR (pc' := 127)  hc rfl rfl rfl sh_75 rfl rfl ?_
          refine g_sipush (pc' := 130) (v := (256 : Int32)) hc rfl zks_256 rfl ?_
          refine g_iload_n (pc' := 131)  hc rfl rfl rfl ?_
          refine g_iconst (pc' := 132) (v := (1 : Int32)) hc rfl zki_1 rfl ?_
          refine g_iadd (pc' := 133)  hc rfl rfl ?_
          refine g_imul (pc' := 134)  hc rfl rfl ?_
          refine g_iload_n (pc' := 135)  hc rfl rfl rfl ?_
          refine g_iadd (pc' := 136)  hc rfl rfl ?_
          have hb := (zwp_bnd h).1
          replace h := (zwp_bnd h).2
          refine z_iaload (pc' := 137) (v := (x28 (((256 : Int32) * (x15 + (1 : Int32))) + x25).toNatClampNeg)) hc rfl rfl sh_100 hb rfl rfl ?_
          refine g_iadd (pc' := 138)  hc rfl rfl ?_
          refine g_istore_n (pc' := 139) (ls1 := [some (.ref 75), some (.int x15), some (.int x25), some (.int ((1000 : Int32) + (x28 (((256 : Int32) * (x15 + (1 : Int32))) + x25).toNatClampNeg))), z27]) hc rfl (zlt rfl) rfl rfl ?_
          refine g_iconst (pc' := 140) (v := (0 : Int32)) hc rfl zki_0 rfl ?_
          refine g_istore (pc' := 142) (ls1 := [some (.ref 75), some (.int x15), some (.int x25), some (.int ((1000 : Int32) + (x28 (((256 : Int32) * (x15 + (1 : Int32))) + x25).toNatClampNeg))), some (.int (0 : Int32))]) hc rfl (zlt rfl) rfl rfl ?_
          refine zjn (G := (fun (y35 : Int32) => ∀ z36 : Option Value, znl z36 = true → pm_ev C_X12_laysSeats (d + 1) (pm_call M cost zext d) cost (false, false) 108 0 0 Q 181 [some (.ref 75), some (.int x15), some (.int x25), some (.int y35), z36] [] 0 0 (zS p q I [(95, none, y8), (96, none, y9), (99, none, y10), (100, none, x28)] J []))) (zwp_bind h) ?_ (fun h => ?_)
          · rintro y35 h z36 hz36
            refine g_aload_n (pc' := 182)  hc rfl rfl rfl rfl ?_
            refine z_getR (pc' := 185)  hc rfl rfl rfl sh_75 rfl rfl ?_
            refine g_sipush (pc' := 188) (v := (256 : Int32)) hc rfl zks_256 rfl ?_
            refine g_iload_n (pc' := 189)  hc rfl rfl rfl ?_
            refine g_imul (pc' := 190)  hc rfl rfl ?_
            refine g_iload_n (pc' := 191)  hc rfl rfl rfl ?_
            refine g_iadd (pc' := 192)  hc rfl rfl ?_
            refine g_iload_n (pc' := 193)  hc rfl rfl rfl ?_
            have hb := (zwp_bnd h).1
            replace h := (zwp_bnd h).2
            refine z_iastore (pc' := 194) (g := x28) (L' := [(95, none, y8), (96, none, y9), (99, none, y10), (100, none, (upd x28 (((256 : Int32) * x15) + x25).toNatClampNeg y35))]) hc rfl rfl sh_100 hb rfl rfl rfl rfl ?_
            refine g_iinc (pc' := 197) (ls1 := [some (.ref 75), some (.int x15), some (.int (x25 + (1 : Int32))), some (.int y35), z36]) hc rfl rfl zki_1 (zlt rfl) rfl rfl ?_
            refine g_goto hc rfl ?_
            replace h := zwp_l h
            exact h (some (.int y35)) rfl z36 hz36
          refine zitr_ev (G := (fun (g : Int32 × Int32) => match g with | (x33, x34) => pm_ev C_X12_laysSeats (d + 1) (pm_call M cost zext d) cost (false, false) 108 0 0 Q 142 [some (.ref 75), some (.int x15), some (.int x25), some (.int x33), some (.int x34)] [] 0 0 (zS p q I [(95, none, y8), (96, none, y9), (99, none, y10), (100, none, x28)] J []))) ?_ zFU (((1000 : Int32) + (x28 (((256 : Int32) * (x15 + (1 : Int32))) + x25).toNatClampNeg)), (0 : Int32)) h
          rintro ⟨x33, x34⟩ h
          refine g_iload (pc' := 144)  hc rfl rfl rfl ?_
          refine g_aload_n (pc' := 145)  hc rfl rfl rfl rfl ?_
          refine z_getI (pc' := 148) (v := (I 75 4)) hc rfl rfl rfl sh_75 rfl rfl rfl ?_
          refine g_icmp_ge (pc' := 151) hc rfl rfl (fun hx => ?_) (fun hx => ?_)
          · replace h := zwp_t h hx
            replace h := zwp_r h
            exact h (some (.int x34)) rfl
          · replace h := zwp_f h hx
            refine g_aload_n (pc' := 152)  hc rfl rfl rfl rfl ?_
            refine g_iload_n (pc' := 153)  hc rfl rfl rfl ?_
            refine g_iload (pc' := 155)  hc rfl rfl rfl ?_
            refine g_iload_n (pc' := 156)  hc rfl rfl rfl ?_
            refine z_virt (as := [.int x15, .int x34, .int x25]) (a := 75) (r := []) hc rfl rfl rfl rfl sh_75 rfl zco_247 rfl rfl rfl ?_
            refine ok_X12_canSit_75 (zdp hd rfl) (zwp_mono (zwp_bind h) ?_)
            rintro r37 h
            refine z_po (pc' := 159) (st' := [.int r37]) (v := (some (.int r37))) (L' := [(95, none, y8), (96, none, y9), (99, none, y10), (100, none, x28)]) (K' := []) zco_247 rfl rfl rfl rfl rfl rfl rfl rfl ?_
            refine g_if_eq (pc' := 162) hc rfl rfl (fun hx => ?_) (fun hx => ?_)
            · replace h := zwp_t h hx
              refine g_iinc (pc' := 178) (ls1 := [some (.ref 75), some (.int x15), some (.int x25), some (.int x33), some (.int (x34 + (1 : Int32)))]) hc rfl rfl zki_1 (zlt rfl) rfl rfl ?_
              refine g_goto hc rfl ?_
              replace h := zwp_l h
              exact h
            · replace h := zwp_f h hx
              refine g_iload_n (pc' := 163)  hc rfl rfl rfl ?_
              refine g_aload_n (pc' := 164)  hc rfl rfl rfl rfl ?_
              refine g_iload_n (pc' := 165)  hc rfl rfl rfl ?_
              refine g_iload (pc' := 167)  hc rfl rfl rfl ?_
              refine g_iload_n (pc' := 168)  hc rfl rfl rfl ?_
              refine z_virt (as := [.int x15, .int x34, .int x25]) (a := 75) (r := [.int x33]) hc rfl rfl rfl rfl sh_75 rfl zco_246 rfl rfl rfl ?_
              refine ok_X12_sits_75 (zdp hd rfl) (zwp_mono (zwp_bind h) ?_)
              rintro r38 h
              refine z_po (pc' := 171) (st' := [.int r38, .int x33]) (v := (some (.int r38))) (L' := [(95, none, y8), (96, none, y9), (99, none, y10), (100, none, x28)]) (K' := []) zco_246 rfl rfl rfl rfl rfl rfl rfl rfl ?_
              refine z_stat (as := [.int x33, .int r38]) (r := []) hc rfl rfl rfl rfl zco_156 rfl rfl rfl ?_
              refine ok_X12_lesser (zdp hd rfl) (zwp_mono (zwp_bind h) ?_)
              rintro r39 h
              refine z_po (pc' := 174) (st' := [.int r39]) (v := (some (.int r39))) (L' := [(95, none, y8), (96, none, y9), (99, none, y10), (100, none, x28)]) (K' := []) zco_156 rfl rfl rfl rfl rfl rfl rfl rfl ?_
              refine g_istore_n (pc' := 175) (ls1 := [some (.ref 75), some (.int x15), some (.int x25), some (.int r39), some (.int x34)]) hc rfl (zlt rfl) rfl rfl ?_
              refine g_iinc (pc' := 178) (ls1 := [some (.ref 75), some (.int x15), some (.int x25), some (.int r39), some (.int (x34 + (1 : Int32)))]) hc rfl rfl zki_1 (zlt rfl) rfl rfl ?_
              refine g_goto hc rfl ?_
              replace h := zwp_l h
              exact h
    refine zitr_ev (G := (fun (g : Int32 × (Nat → Int32)) => match g with | (x11, x12) => pm_ev C_X12_laysSeats (d + 1) (pm_call M cost zext d) cost (false, false) 108 0 0 Q 68 [some (.ref 75), some (.int x11), z7, none, none] [] 0 0 (zS p q I [(95, none, y8), (96, none, y9), (99, none, y10), (100, none, x12)] J []))) ?_ zFU ((0 : Int32), (I 100)) h
    rintro ⟨x11, x12⟩ h
    refine g_iload_n (pc' := 69)  hc rfl rfl rfl ?_
    refine g_sipush (pc' := 72) (v := (256 : Int32)) hc rfl zks_256 rfl ?_
    refine g_icmp_ge (pc' := 75) hc rfl rfl (fun hx => ?_) (fun hx => ?_)
    · replace h := zwp_t h hx
      replace h := zwp_r h
      exact h (some (.int x11)) rfl
    · replace h := zwp_f h hx
      refine g_aload_n (pc' := 76)  hc rfl rfl rfl rfl ?_
      refine z_getR (pc' := 79)  hc rfl rfl rfl sh_75 rfl rfl ?_
      refine g_sipush (pc' := 82) (v := (256 : Int32)) hc rfl zks_256 rfl ?_
      refine g_aload_n (pc' := 83)  hc rfl rfl rfl rfl ?_
      refine z_getI (pc' := 86) (v := (I 75 3)) hc rfl rfl rfl sh_75 rfl rfl rfl ?_
      refine g_imul (pc' := 87)  hc rfl rfl ?_
      refine g_iload_n (pc' := 88)  hc rfl rfl rfl ?_
      refine g_iadd (pc' := 89)  hc rfl rfl ?_
      refine g_iconst (pc' := 90) (v := (0 : Int32)) hc rfl zki_0 rfl ?_
      have hb := (zwp_bnd h).1
      replace h := (zwp_bnd h).2
      refine z_iastore (pc' := 91) (g := x12) (L' := [(95, none, y8), (96, none, y9), (99, none, y10), (100, none, (upd x12 (((256 : Int32) * ((I 75 3))) + x11).toNatClampNeg (0 : Int32)))]) hc rfl rfl sh_100 hb rfl rfl rfl rfl ?_
      refine g_iinc (pc' := 94) (ls1 := [some (.ref 75), some (.int (x11 + (1 : Int32))), z7, none, none]) hc rfl rfl zki_1 (zlt rfl) rfl rfl ?_
      refine g_goto hc rfl ?_
      replace h := zwp_l h
      exact h
  refine zitr_ev (G := (fun (g : Int32 × (Nat → Int32) × (Nat → Int32) × (Nat → Int32)) => match g with | (x1, x3, x4, x5) => ∀ z2 : Option Value, znl z2 = true → pm_ev C_X12_laysSeats (d + 1) (pm_call M cost zext d) cost (false, false) 108 0 0 Q 2 [some (.ref 75), some (.int x1), z2, none, none] [] 0 0 (zS p q I [(95, none, x3), (96, none, x4), (99, none, x5), (100, none, (I 100))] J []))) ?_ zFU ((0 : Int32), (I 95), (I 96), (I 99)) h none rfl
  rintro ⟨x1, x3, x4, x5⟩ h z2 hz2
  refine g_iload_n (pc' := 3)  hc rfl rfl rfl ?_
  refine g_aload_n (pc' := 4)  hc rfl rfl rfl rfl ?_
  refine z_getI (pc' := 7) (v := (I 75 4)) hc rfl rfl rfl sh_75 rfl rfl rfl ?_
  refine g_icmp_ge (pc' := 10) hc rfl rfl (fun hx => ?_) (fun hx => ?_)
  · replace h := zwp_t h hx
    replace h := zwp_r h
    exact h (some (.int x1)) rfl z2 hz2
  · replace h := zwp_f h hx
    refine g_aload_n (pc' := 11)  hc rfl rfl rfl rfl ?_
    refine g_aload_n (pc' := 12)  hc rfl rfl rfl rfl ?_
    refine z_getR (pc' := 15)  hc rfl rfl rfl sh_75 rfl rfl ?_
    refine g_iload_n (pc' := 16)  hc rfl rfl rfl ?_
    have hb := (zwp_bnd h).1
    replace h := (zwp_bnd h).2
    refine z_iaload (pc' := 17) (v := (((I 78)) x1.toNatClampNeg)) hc rfl rfl sh_78 hb rfl rfl ?_
    refine z_virt (as := [.int (((I 78)) x1.toNatClampNeg)]) (a := 75) (r := []) hc rfl rfl rfl rfl sh_75 rfl zco_213 rfl rfl rfl ?_
    refine ok_X12_laysFar_75 (zdp hd rfl) (zwp_mono (zwp_bind h) ?_)
    rintro ⟨o40, o41⟩ h
    refine z_po (pc' := 20) (st' := []) (v := none) (L' := [(95, none, o40), (96, none, o41), (99, none, x5), (100, none, (I 100))]) (K' := []) zco_213 rfl rfl rfl rfl rfl rfl rfl rfl ?_
    refine g_iconst (pc' := 21) (v := (0 : Int32)) hc rfl zki_0 rfl ?_
    refine g_istore_n (pc' := 22) (ls1 := [some (.ref 75), some (.int x1), some (.int (0 : Int32)), none, none]) hc rfl (zlt rfl) rfl rfl ?_
    refine zjn (G := (fun (y45 : (Nat → Int32)) => ∀ z44 : Option Value, znl z44 = true → pm_ev C_X12_laysSeats (d + 1) (pm_call M cost zext d) cost (false, false) 108 0 0 Q 60 [some (.ref 75), some (.int x1), z44, none, none] [] 0 0 (zS p q I [(95, none, o40), (96, none, o41), (99, none, y45), (100, none, (I 100))] J []))) (zwp_bind h) ?_ (fun h => ?_)
    · rintro y45 h z44 hz44
      refine g_iinc (pc' := 63) (ls1 := [some (.ref 75), some (.int (x1 + (1 : Int32))), z44, none, none]) hc rfl rfl zki_1 (zlt rfl) rfl rfl ?_
      refine g_goto hc rfl ?_
      replace h := zwp_l h
      exact h z44 hz44
    refine zitr_ev (G := (fun (g : Int32 × (Nat → Int32)) => match g with | (x42, x43) => pm_ev C_X12_laysSeats (d + 1) (pm_call M cost zext d) cost (false, false) 108 0 0 Q 22 [some (.ref 75), some (.int x1), some (.int x42), none, none] [] 0 0 (zS p q I [(95, none, o40), (96, none, o41), (99, none, x43), (100, none, (I 100))] J []))) ?_ zFU ((0 : Int32), x5) h
    rintro ⟨x42, x43⟩ h
    refine g_iload_n (pc' := 23)  hc rfl rfl rfl ?_
    refine g_aload_n (pc' := 24)  hc rfl rfl rfl rfl ?_
    refine z_getI (pc' := 27) (v := (I 75 3)) hc rfl rfl rfl sh_75 rfl rfl rfl ?_
    refine g_icmp_ge (pc' := 30) hc rfl rfl (fun hx => ?_) (fun hx => ?_)
    · replace h := zwp_t h hx
      replace h := zwp_r h
      exact h (some (.int x42)) rfl
    · replace h := zwp_f h hx
      refine g_aload_n (pc' := 31)  hc rfl rfl rfl rfl ?_
      refine z_getR (pc' := 34)  hc rfl rfl rfl sh_75 rfl rfl ?_
      refine g_bipush (pc' := 36) (v := (8 : Int32)) hc rfl zkb_8 rfl ?_
      refine g_iload_n (pc' := 37)  hc rfl rfl rfl ?_
      refine g_imul (pc' := 38)  hc rfl rfl ?_
      refine g_iload_n (pc' := 39)  hc rfl rfl rfl ?_
      refine g_iadd (pc' := 40)  hc rfl rfl ?_
      refine g_aload_n (pc' := 41)  hc rfl rfl rfl rfl ?_
      refine z_getR (pc' := 44)  hc rfl rfl rfl sh_75 rfl rfl ?_
      refine g_aload_n (pc' := 45)  hc rfl rfl rfl rfl ?_
      refine z_getR (pc' := 48)  hc rfl rfl rfl sh_75 rfl rfl ?_
      refine g_iconst (pc' := 49) (v := (1 : Int32)) hc rfl zki_1 rfl ?_
      refine g_iload_n (pc' := 50)  hc rfl rfl rfl ?_
      refine g_iadd (pc' := 51)  hc rfl rfl ?_
      have hb := (zwp_bnd h).1
      replace h := (zwp_bnd h).2
      refine z_iaload (pc' := 52) (v := (((I 91)) ((1 : Int32) + x42).toNatClampNeg)) hc rfl rfl sh_91 hb rfl rfl ?_
      have hb := (zwp_bnd h).1
      replace h := (zwp_bnd h).2
      refine z_iaload (pc' := 53) (v := (o40 (((I 91)) ((1 : Int32) + x42).toNatClampNeg).toNatClampNeg)) hc rfl rfl sh_95 hb rfl rfl ?_
      have hb := (zwp_bnd h).1
      replace h := (zwp_bnd h).2
      refine z_iastore (pc' := 54) (g := x43) (L' := [(95, none, o40), (96, none, o41), (99, none, (upd x43 (((8 : Int32) * x42) + x1).toNatClampNeg (o40 (((I 91)) ((1 : Int32) + x42).toNatClampNeg).toNatClampNeg))), (100, none, (I 100))]) hc rfl rfl sh_99 hb rfl rfl rfl rfl ?_
      refine g_iinc (pc' := 57) (ls1 := [some (.ref 75), some (.int x1), some (.int (x42 + (1 : Int32))), none, none]) hc rfl rfl zki_1 (zlt rfl) rfl rfl ?_
      refine g_goto hc rfl ?_
      replace h := zwp_l h
      exact h
set_option maxRecDepth 4000 in
theorem ok_X12_seats_75 {p q : Nat} {I : pI} {J : pJ} {a1 : Int32} {Q : pQ} {d : Nat} (hd : 4 ≤ d) (h : zwp (f_X12_seats a1 (I 95) (I 75 3) (I 100) (I 96) (I 91) (I 78) (I 99) (I 75 4) (I 75 2) (I 75 0) (I 75 1)) (fun w => match w with | (r, o0, o1, o2, o3, o4) => Q (.inl (some (.int r))) (zS p q I [(75, some 0, fun _ => o4), (95, none, o0), (96, none, o2), (99, none, o3), (100, none, o1)] J []))) : pm_call M cost zext d 249 [.ref 75, .int a1] (pm_st 108 (shp p q) I J) Q := by
  obtain ⟨d, rfl⟩ := zd1 hd rfl
  have hc := pm_call_m (M := M) (cost := cost) zext_m d
  refine z_in (L := [(75, some 0, fun _ => (I 75 0)), (95, none, (I 95)), (96, none, (I 96)), (99, none, (I 99)), (100, none, (I 100))]) (K := []) (ls := [some (.ref 75), some (.int a1)]) zmt_249 zco_249 rfl rfl (zid_s (zid_a (zid_a (zid_a (zid_a zid_n))))) zid_n ?_
  delta f_X12_seats at h
  refine g_aload_n (pc' := 1)  hc rfl rfl rfl rfl ?_
  refine g_iconst (pc' := 2) (v := (0 : Int32)) hc rfl zki_0 rfl ?_
  refine z_putI (pc' := 5) (L' := [(75, some 0, fun _ => (0 : Int32)), (95, none, (I 95)), (96, none, (I 96)), (99, none, (I 99)), (100, none, (I 100))]) hc rfl rfl rfl sh_75 rfl zft_12_0 rfl (fun h => Bool.noConfusion h) rfl rfl rfl ?_
  refine g_aload_n (pc' := 6)  hc rfl rfl rfl rfl ?_
  refine g_iload_n (pc' := 7)  hc rfl rfl rfl ?_
  refine g_iconst (pc' := 8) (v := (1 : Int32)) hc rfl zki_1 rfl ?_
  refine z_virt (as := [.int a1, .int (1 : Int32)]) (a := 75) (r := []) hc rfl rfl rfl rfl sh_75 rfl zco_218 rfl rfl rfl ?_
  refine ok_X12_isWhat_75 (zdp hd rfl) (zwp_mono (zwp_bind h) ?_)
  rintro ⟨r2, o1⟩ h
  refine z_po (pc' := 11) (st' := [.int r2]) (v := (some (.int r2))) (L' := [(75, some 0, fun _ => o1), (95, none, (I 95)), (96, none, (I 96)), (99, none, (I 99)), (100, none, (I 100))]) (K' := []) zco_218 rfl rfl rfl rfl rfl rfl rfl rfl ?_
  refine g_if_ne (pc' := 14) hc rfl rfl (fun hx => ?_) (fun hx => ?_)
  · replace h := zwp_f h hx
    refine g_aload_n (pc' := 17)  hc rfl rfl rfl rfl ?_
    refine z_virt (as := []) (a := 75) (r := []) hc rfl rfl rfl rfl sh_75 rfl zco_248 rfl rfl rfl ?_
    refine ok_X12_laysSeats_75 (zdp hd rfl) (zwp_mono (zwp_bind h) ?_)
    rintro ⟨o3, o4, o5, o6⟩ h
    refine z_po (pc' := 20) (st' := []) (v := none) (L' := [(75, some 0, fun _ => o1), (95, none, o3), (96, none, o5), (99, none, o6), (100, none, o4)]) (K' := []) zco_248 rfl rfl rfl rfl rfl rfl rfl rfl ?_
    refine g_iload_n (pc' := 21)  hc rfl rfl rfl ?_
    refine g_if_ne (pc' := 24) hc rfl rfl (fun hx => ?_) (fun hx => ?_)
    · replace h := zwp_f h hx
      refine g_aload_n (pc' := 43)  hc rfl rfl rfl rfl ?_
      refine z_getR (pc' := 46)  hc rfl rfl rfl sh_75 rfl rfl ?_
      refine g_iconst (pc' := 47) (v := (0 : Int32)) hc rfl zki_0 rfl ?_
      refine z_iaload (pc' := 48) (v := (o4 0)) hc rfl rfl sh_100 (by decide) rfl rfl ?_
      refine g_sipush (pc' := 51) (v := (1000 : Int32)) hc rfl zks_1000 rfl ?_
      refine g_irem (pc' := 52)  hc rfl (by decide) rfl ?_
      replace h := zws h
      exact g_ireturn hc rfl rfl rfl (fun _ => ⟨rfl, rfl⟩) h
    · replace h := zwp_t h hx
      refine g_aload_n (pc' := 25)  hc rfl rfl rfl rfl ?_
      refine z_getI (pc' := 28) (v := (I 75 3)) hc rfl rfl rfl sh_75 rfl rfl rfl ?_
      refine g_aload_n (pc' := 29)  hc rfl rfl rfl rfl ?_
      refine z_getR (pc' := 32)  hc rfl rfl rfl sh_75 rfl rfl ?_
      refine g_iconst (pc' := 33) (v := (0 : Int32)) hc rfl zki_0 rfl ?_
      refine z_iaload (pc' := 34) (v := (o4 0)) hc rfl rfl sh_100 (by decide) rfl rfl ?_
      refine g_sipush (pc' := 37) (v := (1000 : Int32)) hc rfl zks_1000 rfl ?_
      refine g_idiv (pc' := 38)  hc rfl (by decide) rfl ?_
      refine g_isub (pc' := 39)  hc rfl rfl ?_
      refine g_goto hc rfl ?_
      replace h := zws h
      exact g_ireturn hc rfl rfl rfl (fun _ => ⟨rfl, rfl⟩) h
  · replace h := zwp_t h hx
    refine g_iconst (pc' := 15) (v := (0 : Int32)) hc rfl zki_0 rfl ?_
    replace h := zws h
    exact g_ireturn hc rfl rfl rfl (fun _ => ⟨rfl, rfl⟩) h
set_option maxRecDepth 4000 in
theorem ok_X12_seat_75 {p q : Nat} {I : pI} {J : pJ} {a1 : Int32} {Q : pQ} {d : Nat} (hd : 4 ≤ d) (h : zwp (f_X12_seat a1 (I 95) (I 75 3) (I 100) (I 96) (I 91) (I 78) (I 99) (I 75 4) (I 75 2) (I 75 0) (I 75 1)) (fun w => match w with | (r, o0, o1, o2, o3, o4) => Q (.inl (some (.int r))) (zS p q I [(75, some 0, fun _ => o4), (95, none, o0), (96, none, o2), (99, none, o3), (100, none, o1)] J []))) : pm_call M cost zext d 250 [.ref 75, .int a1] (pm_st 108 (shp p q) I J) Q := by
  obtain ⟨d, rfl⟩ := zd1 hd rfl
  have hc := pm_call_m (M := M) (cost := cost) zext_m d
  refine z_in (L := [(75, some 0, fun _ => (I 75 0)), (95, none, (I 95)), (96, none, (I 96)), (99, none, (I 99)), (100, none, (I 100))]) (K := []) (ls := [some (.ref 75), some (.int a1), none, none, none, none]) zmt_250 zco_250 rfl rfl (zid_s (zid_a (zid_a (zid_a (zid_a zid_n))))) zid_n ?_
  delta f_X12_seat at h
  refine g_aload_n (pc' := 1)  hc rfl rfl rfl rfl ?_
  refine g_iconst (pc' := 2) (v := (0 : Int32)) hc rfl zki_0 rfl ?_
  refine z_putI (pc' := 5) (L' := [(75, some 0, fun _ => (0 : Int32)), (95, none, (I 95)), (96, none, (I 96)), (99, none, (I 99)), (100, none, (I 100))]) hc rfl rfl rfl sh_75 rfl zft_12_0 rfl (fun h => Bool.noConfusion h) rfl rfl rfl ?_
  refine g_aload_n (pc' := 6)  hc rfl rfl rfl rfl ?_
  refine g_iload_n (pc' := 7)  hc rfl rfl rfl ?_
  refine z_virt (as := [.int a1]) (a := 75) (r := []) hc rfl rfl rfl rfl sh_75 rfl zco_216 rfl rfl rfl ?_
  refine ok_X12_isFigure_75 (zdp hd rfl) (zwp_mono (zwp_bind h) ?_)
  rintro ⟨r2, o1⟩ h
  refine z_po (pc' := 10) (st' := [.int r2]) (v := (some (.int r2))) (L' := [(75, some 0, fun _ => o1), (95, none, (I 95)), (96, none, (I 96)), (99, none, (I 99)), (100, none, (I 100))]) (K' := []) zco_216 rfl rfl rfl rfl rfl rfl rfl rfl ?_
  refine g_if_ne (pc' := 13) hc rfl rfl (fun hx => ?_) (fun hx => ?_)
  · replace h := zwp_f h hx
    refine g_aload_n (pc' := 16)  hc rfl rfl rfl rfl ?_
    refine z_virt (as := []) (a := 75) (r := []) hc rfl rfl rfl rfl sh_75 rfl zco_248 rfl rfl rfl ?_
    refine ok_X12_laysSeats_75 (zdp hd rfl) (zwp_mono (zwp_bind h) ?_)
    rintro ⟨o3, o4, o5, o6⟩ h
    refine z_po (pc' := 19) (st' := []) (v := none) (L' := [(75, some 0, fun _ => o1), (95, none, o3), (96, none, o5), (99, none, o6), (100, none, o4)]) (K' := []) zco_248 rfl rfl rfl rfl rfl rfl rfl rfl ?_
    refine g_iconst (pc' := 20) (v := (0 : Int32)) hc rfl zki_0 rfl ?_
    refine g_istore_n (pc' := 21) (ls1 := [some (.ref 75), some (.int a1), some (.int (0 : Int32)), none, none, none]) hc rfl (zlt rfl) rfl rfl ?_
    refine g_iconst (pc' := 22) (v := (-1 : Int32)) hc rfl zki_m1 rfl ?_
    refine g_istore_n (pc' := 23) (ls1 := [some (.ref 75), some (.int a1), some (.int (0 : Int32)), some (.int (-1 : Int32)), none, none]) hc rfl (zlt rfl) rfl rfl ?_
    refine g_iconst (pc' := 24) (v := (0 : Int32)) hc rfl zki_0 rfl ?_
    refine g_istore (pc' := 26) (ls1 := [some (.ref 75), some (.int a1), some (.int (0 : Int32)), some (.int (-1 : Int32)), some (.int (0 : Int32)), none]) hc rfl (zlt rfl) rfl rfl ?_
    refine zjn (G := (fun (y12 : Int32) => ∀ z11 : Option Value, znl z11 = true → ∀ z13 : Option Value, znl z13 = true → ∀ z14 : Option Value, znl z14 = true → pm_ev C_X12_seat (d + 1) (pm_call M cost zext d) cost (false, false) 108 0 0 Q 110 [some (.ref 75), some (.int a1), z11, some (.int y12), z13, z14] [] 0 0 (zS p q I [(75, some 0, fun _ => o1), (95, none, o3), (96, none, o5), (99, none, o6), (100, none, o4)] J []))) (zwp_bind h) ?_ (fun h => ?_)
    · rintro y12 h z11 hz11 z13 hz13 z14 hz14
      refine g_iload_n (pc' := 111)  hc rfl rfl rfl ?_
      replace h := zws h
      exact g_ireturn hc rfl rfl rfl (fun _ => ⟨rfl, rfl⟩) h
    refine zitr_ev (G := (fun (g : Int32 × Int32 × Int32) => match g with | (x7, x8, x9) => ∀ z10 : Option Value, znl z10 = true → pm_ev C_X12_seat (d + 1) (pm_call M cost zext d) cost (false, false) 108 0 0 Q 26 [some (.ref 75), some (.int a1), some (.int x7), some (.int x8), some (.int x9), z10] [] 0 0 (zS p q I [(75, some 0, fun _ => o1), (95, none, o3), (96, none, o5), (99, none, o6), (100, none, o4)] J []))) ?_ zFU ((0 : Int32), (-1 : Int32), (0 : Int32)) h none rfl
    rintro ⟨x7, x8, x9⟩ h z10 hz10
    refine g_iload (pc' := 28)  hc rfl rfl rfl ?_
    refine g_iload_n (pc' := 29)  hc rfl rfl rfl ?_
    refine g_icmp_gt (pc' := 32) hc rfl rfl (fun hx => ?_) (fun hx => ?_)
    · replace h := zwp_t h hx
      replace h := zwp_r h
      exact h (some (.int x7)) rfl (some (.int x9)) rfl z10 hz10
    · replace h := zwp_f h hx
      refine g_iconst (pc' := 33) (v := (-1 : Int32)) hc rfl zki_m1 rfl ?_
      refine g_istore_n (pc' := 34) (ls1 := [some (.ref 75), some (.int a1), some (.int x7), some (.int (-1 : Int32)), some (.int x9), z10]) hc rfl (zlt rfl) rfl rfl ?_
      refine g_aload_n (pc' := 35)  hc rfl rfl rfl rfl ?_
      refine z_getI (pc' := 38) (v := (I 75 4)) hc rfl rfl rfl sh_75 rfl rfl rfl ?_
      refine g_iconst (pc' := 39) (v := (1 : Int32)) hc rfl zki_1 rfl ?_
      refine g_isub (pc' := 40)  hc rfl rfl ?_
      refine g_istore (pc' := 42) (ls1 := [some (.ref 75), some (.int a1), some (.int x7), some (.int (-1 : Int32)), some (.int x9), some (.int (((I 75 4)) - (1 : Int32)))]) hc rfl (zlt rfl) rfl rfl ?_
      refine zjn (G := (fun (y17 : Int32) => ∀ z18 : Option Value, znl z18 = true → pm_ev C_X12_seat (d + 1) (pm_call M cost zext d) cost (false, false) 108 0 0 Q 93 [some (.ref 75), some (.int a1), some (.int x7), some (.int y17), some (.int x9), z18] [] 0 0 (zS p q I [(75, some 0, fun _ => o1), (95, none, o3), (96, none, o5), (99, none, o6), (100, none, o4)] J []))) (zwp_bind h) ?_ (fun h => ?_)
      · rintro y17 h z18 hz18
        refine g_iload_n (pc' := 94)  hc rfl rfl rfl ?_
        refine g_iconst (pc' := 95) (v := (-1 : Int32)) hc rfl zki_m1 rfl ?_
        refine g_icmp_eq (pc' := 98) hc rfl rfl (fun hx => ?_) (fun hx => ?_)
        · replace h := zwp_t h hx
          refine g_iinc (pc' := 107) (ls1 := [some (.ref 75), some (.int a1), some (.int x7), some (.int y17), some (.int (x9 + (1 : Int32))), z18]) hc rfl rfl zki_1 (zlt rfl) rfl rfl ?_
          refine g_goto hc rfl ?_
          replace h := zwp_l h
          exact h z18 hz18
        · replace h := zwp_f h hx
          refine g_iload_n (pc' := 99)  hc rfl rfl rfl ?_
          refine g_iconst (pc' := 100) (v := (1 : Int32)) hc rfl zki_1 rfl ?_
          refine g_iload_n (pc' := 101)  hc rfl rfl rfl ?_
          refine g_ishl (pc' := 102)  hc rfl rfl ?_
          refine g_ior (pc' := 103)  hc rfl rfl ?_
          refine g_istore_n (pc' := 104) (ls1 := [some (.ref 75), some (.int a1), some (.int (x7 ||| ((1 : Int32) <<< (y17 &&& 31)))), some (.int y17), some (.int x9), z18]) hc rfl (zlt rfl) rfl rfl ?_
          refine g_iinc (pc' := 107) (ls1 := [some (.ref 75), some (.int a1), some (.int (x7 ||| ((1 : Int32) <<< (y17 &&& 31)))), some (.int y17), some (.int (x9 + (1 : Int32))), z18]) hc rfl rfl zki_1 (zlt rfl) rfl rfl ?_
          refine g_goto hc rfl ?_
          replace h := zwp_l h
          exact h z18 hz18
      refine zitr_ev (G := (fun (g : Int32 × Int32) => match g with | (x15, x16) => pm_ev C_X12_seat (d + 1) (pm_call M cost zext d) cost (false, false) 108 0 0 Q 42 [some (.ref 75), some (.int a1), some (.int x7), some (.int x15), some (.int x9), some (.int x16)] [] 0 0 (zS p q I [(75, some 0, fun _ => o1), (95, none, o3), (96, none, o5), (99, none, o6), (100, none, o4)] J []))) ?_ zFU ((-1 : Int32), (((I 75 4)) - (1 : Int32))) h
      rintro ⟨x15, x16⟩ h
      refine g_iload (pc' := 44)  hc rfl rfl rfl ?_
      refine g_if_lt (pc' := 47) hc rfl rfl (fun hx => ?_) (fun hx => ?_)
      · replace h := zwp_t h hx
        replace h := zwp_r h
        exact h (some (.int x16)) rfl
      · replace h := zwp_f h hx
        refine g_aload_n (pc' := 48)  hc rfl rfl rfl rfl ?_
        refine g_iload (pc' := 50)  hc rfl rfl rfl ?_
        refine g_iload (pc' := 52)  hc rfl rfl rfl ?_
        refine g_iload_n (pc' := 53)  hc rfl rfl rfl ?_
        refine z_virt (as := [.int x9, .int x16, .int x7]) (a := 75) (r := []) hc rfl rfl rfl rfl sh_75 rfl zco_247 rfl rfl rfl ?_
        refine ok_X12_canSit_75 (zdp hd rfl) (zwp_mono (zwp_bind h) ?_)
        rintro r19 h
        refine z_po (pc' := 56) (st' := [.int r19]) (v := (some (.int r19))) (L' := [(75, some 0, fun _ => o1), (95, none, o3), (96, none, o5), (99, none, o6), (100, none, o4)]) (K' := []) zco_247 rfl rfl rfl rfl rfl rfl rfl rfl ?_
        refine g_if_eq (pc' := 59) hc rfl rfl (fun hx => ?_) (fun hx => ?_)
        · replace h := zwp_t h hx
          refine g_iinc (pc' := 90) (ls1 := [some (.ref 75), some (.int a1), some (.int x7), some (.int x15), some (.int x9), some (.int (x16 + (-1 : Int32)))]) hc rfl rfl zki_m1 (zlt rfl) rfl rfl ?_
          refine g_goto hc rfl ?_
          replace h := zwp_l h
          exact h
        · replace h := zwp_f h hx
          refine g_aload_n (pc' := 60)  hc rfl rfl rfl rfl ?_
          refine g_iload (pc' := 62)  hc rfl rfl rfl ?_
          refine g_iload (pc' := 64)  hc rfl rfl rfl ?_
          refine g_iload_n (pc' := 65)  hc rfl rfl rfl ?_
          refine z_virt (as := [.int x9, .int x16, .int x7]) (a := 75) (r := []) hc rfl rfl rfl rfl sh_75 rfl zco_246 rfl rfl rfl ?_
          refine ok_X12_sits_75 (zdp hd rfl) (zwp_mono (zwp_bind h) ?_)
          rintro r20 h
          refine z_po (pc' := 68) (st' := [.int r20]) (v := (some (.int r20))) (L' := [(75, some 0, fun _ => o1), (95, none, o3), (96, none, o5), (99, none, o6), (100, none, o4)]) (K' := []) zco_246 rfl rfl rfl rfl rfl rfl rfl rfl ?_
          refine g_aload_n (pc' := 69)  hc rfl rfl rfl rfl ?_
          refine z_getR (pc' := 72)  hc rfl rfl rfl sh_75 rfl rfl ?_
          refine g_sipush (pc' := 75) (v := (256 : Int32)) hc rfl zks_256 rfl ?_
          refine g_iload (pc' := 77)  hc rfl rfl rfl ?_
          refine g_imul (pc' := 78)  hc rfl rfl ?_
          refine g_iload_n (pc' := 79)  hc rfl rfl rfl ?_
          refine g_iadd (pc' := 80)  hc rfl rfl ?_
          have hb := (zwp_bnd h).1
          replace h := (zwp_bnd h).2
          refine z_iaload (pc' := 81) (v := (o4 (((256 : Int32) * x9) + x7).toNatClampNeg)) hc rfl rfl sh_100 hb rfl rfl ?_
          refine g_icmp_ne (pc' := 84) hc rfl rfl (fun hx => ?_) (fun hx => ?_)
          · replace h := zwp_f h hx
            refine g_iinc (pc' := 90) (ls1 := [some (.ref 75), some (.int a1), some (.int x7), some (.int x15), some (.int x9), some (.int (x16 + (-1 : Int32)))]) hc rfl rfl zki_m1 (zlt rfl) rfl rfl ?_
            refine g_goto hc rfl ?_
            replace h := zwp_l h
            exact h
          · replace h := zwp_t h hx
            refine g_iload (pc' := 86)  hc rfl rfl rfl ?_
            refine g_istore_n (pc' := 87) (ls1 := [some (.ref 75), some (.int a1), some (.int x7), some (.int x16), some (.int x9), some (.int x16)]) hc rfl (zlt rfl) rfl rfl ?_
            refine g_iinc (pc' := 90) (ls1 := [some (.ref 75), some (.int a1), some (.int x7), some (.int x16), some (.int x9), some (.int (x16 + (-1 : Int32)))]) hc rfl rfl zki_m1 (zlt rfl) rfl rfl ?_
            refine g_goto hc rfl ?_
            replace h := zwp_l h
            exact h
  · replace h := zwp_t h hx
    refine g_iconst (pc' := 14) (v := (0 : Int32)) hc rfl zki_0 rfl ?_
    replace h := zws h
    exact g_ireturn hc rfl rfl rfl (fun _ => ⟨rfl, rfl⟩) h
set_option maxRecDepth 4000 in
theorem ok_X12_note_75 {p q : Nat} {I : pI} {J : pJ} {a1 : Int32} {a2 : Int32} {a3 : Int32} {Q : pQ} {d : Nat} (hd : 3 ≤ d) (h : zwp (f_X12_note a1 a2 a3 (I 75 3) (I 101) (I 75 60) (I 82) (I 75 2) (I 75 0) (I 75 1)) (fun w => match w with | (r, o0, o1, o2, o3) => Q (.inl (some (.int r))) (zS p q I [(75, some 0, fun _ => o3), (75, some 60, fun _ => o1), (82, none, o2), (101, none, o0)] J []))) : pm_call M cost zext d 251 [.ref 75, .int a1, .int a2, .int a3] (pm_st 108 (shp p q) I J) Q := by
  obtain ⟨d, rfl⟩ := zd1 hd rfl
  have hc := pm_call_m (M := M) (cost := cost) zext_m d
  refine z_in (L := [(75, some 0, fun _ => (I 75 0)), (75, some 60, fun _ => (I 75 60)), (82, none, (I 82)), (101, none, (I 101))]) (K := []) (ls := [some (.ref 75), some (.int a1), some (.int a2), some (.int a3)]) zmt_251 zco_251 rfl rfl (zid_s (zid_s (zid_a (zid_a zid_n)))) zid_n ?_
  delta f_X12_note at h
  refine g_aload_n (pc' := 1)  hc rfl rfl rfl rfl ?_
  refine g_iconst (pc' := 2) (v := (0 : Int32)) hc rfl zki_0 rfl ?_
  refine z_putI (pc' := 5) (L' := [(75, some 0, fun _ => (0 : Int32)), (75, some 60, fun _ => (I 75 60)), (82, none, (I 82)), (101, none, (I 101))]) hc rfl rfl rfl sh_75 rfl zft_12_0 rfl (fun h => Bool.noConfusion h) rfl rfl rfl ?_
  refine g_aload_n (pc' := 6)  hc rfl rfl rfl rfl ?_
  refine g_iload_n (pc' := 7)  hc rfl rfl rfl ?_
  refine z_virt (as := [.int a1]) (a := 75) (r := []) hc rfl rfl rfl rfl sh_75 rfl zco_216 rfl rfl rfl ?_
  refine ok_X12_isFigure_75 (zdp hd rfl) (zwp_mono (zwp_bind h) ?_)
  rintro ⟨r2, o1⟩ h
  refine z_po (pc' := 10) (st' := [.int r2]) (v := (some (.int r2))) (L' := [(75, some 0, fun _ => o1), (75, some 60, fun _ => (I 75 60)), (82, none, (I 82)), (101, none, (I 101))]) (K' := []) zco_216 rfl rfl rfl rfl rfl rfl rfl rfl ?_
  refine g_if_eq (pc' := 13) hc rfl rfl (fun hx => ?_) (fun hx => ?_)
  · replace h := zwp_t h hx
    refine g_iconst (pc' := 22) (v := (0 : Int32)) hc rfl zki_0 rfl ?_
    replace h := zws h
    exact g_ireturn hc rfl rfl rfl (fun _ => ⟨rfl, rfl⟩) h
  · replace h := zwp_f h hx
    refine g_aload_n (pc' := 14)  hc rfl rfl rfl rfl ?_
    refine g_iload_n (pc' := 15)  hc rfl rfl rfl ?_
    refine z_virt (as := [.int a2]) (a := 75) (r := []) hc rfl rfl rfl rfl sh_75 rfl zco_217 rfl rfl rfl ?_
    refine ok_X12_isCell_75 (zdp hd rfl) (zwp_mono (zwp_bind h) ?_)
    rintro ⟨r4, o3⟩ h
    refine z_po (pc' := 18) (st' := [.int r4]) (v := (some (.int r4))) (L' := [(75, some 0, fun _ => o3), (75, some 60, fun _ => (I 75 60)), (82, none, (I 82)), (101, none, (I 101))]) (K' := []) zco_217 rfl rfl rfl rfl rfl rfl rfl rfl ?_
    refine g_if_ne (pc' := 21) hc rfl rfl (fun hx => ?_) (fun hx => ?_)
    · replace h := zwp_f h hx
      refine g_aload_n (pc' := 24)  hc rfl rfl rfl rfl ?_
      refine z_getI (pc' := 27) (v := (I 75 60)) hc rfl rfl rfl sh_75 rfl rfl rfl ?_
      refine g_bipush (pc' := 29) (v := (8 : Int32)) hc rfl zkb_8 rfl ?_
      refine g_icmp_eq (pc' := 32) hc rfl rfl (fun hx => ?_) (fun hx => ?_)
      · replace h := zwp_t h hx
        refine g_aload_n (pc' := 43)  hc rfl rfl rfl rfl ?_
        refine g_iconst (pc' := 44) (v := (2 : Int32)) hc rfl zki_2 rfl ?_
        refine z_virt (as := [.int (2 : Int32)]) (a := 75) (r := []) hc rfl rfl rfl rfl sh_75 rfl zco_194 rfl rfl rfl ?_
        refine ok_X12_refuses_75 (zdp hd rfl) (zwp_mono (zwp_bind h) ?_)
        rintro ⟨r6, o5⟩ h
        refine z_po (pc' := 47) (st' := [.int r6]) (v := (some (.int r6))) (L' := [(75, some 0, fun _ => o3), (75, some 60, fun _ => (I 75 60)), (82, none, o5), (101, none, (I 101))]) (K' := []) zco_194 rfl rfl rfl rfl rfl rfl rfl rfl ?_
        replace h := zws h
        exact g_ireturn hc rfl rfl rfl (fun _ => ⟨rfl, rfl⟩) h
      · replace h := zwp_f h hx
        refine g_iload_n (pc' := 33)  hc rfl rfl rfl ?_
        refine g_iconst (pc' := 34) (v := (0 : Int32)) hc rfl zki_0 rfl ?_
        refine g_bipush (pc' := 36) (v := (20 : Int32)) hc rfl zkb_20 rfl ?_
        refine z_stat (as := [.int a3, .int (0 : Int32), .int (20 : Int32)]) (r := []) hc rfl rfl rfl rfl zco_154 rfl rfl rfl ?_
        refine ok_X12_within (zdp hd rfl) (zwp_mono (zwp_bind h) ?_)
        rintro r7 h
        refine z_po (pc' := 39) (st' := [.int r7]) (v := (some (.int r7))) (L' := [(75, some 0, fun _ => o3), (75, some 60, fun _ => (I 75 60)), (82, none, (I 82)), (101, none, (I 101))]) (K' := []) zco_154 rfl rfl rfl rfl rfl rfl rfl rfl ?_
        refine g_if_ne (pc' := 42) hc rfl rfl (fun hx => ?_) (fun hx => ?_)
        · replace h := zwp_f h hx
          refine g_aload_n (pc' := 49)  hc rfl rfl rfl rfl ?_
          refine z_getR (pc' := 52)  hc rfl rfl rfl sh_75 rfl rfl ?_
          refine g_iconst (pc' := 53) (v := (3 : Int32)) hc rfl zki_3 rfl ?_
          refine g_aload_n (pc' := 54)  hc rfl rfl rfl rfl ?_
          refine z_getI (pc' := 57) (v := (I 75 60)) hc rfl rfl rfl sh_75 rfl rfl rfl ?_
          refine g_imul (pc' := 58)  hc rfl rfl ?_
          refine g_iload_n (pc' := 59)  hc rfl rfl rfl ?_
          have hb := (zwp_bnd h).1
          replace h := (zwp_bnd h).2
          refine z_iastore (pc' := 60) (g := (I 101)) (L' := [(75, some 0, fun _ => o3), (75, some 60, fun _ => (I 75 60)), (82, none, (I 82)), (101, none, (upd ((I 101)) ((3 : Int32) * ((I 75 60))).toNatClampNeg a1))]) hc rfl rfl sh_101 hb rfl rfl rfl rfl ?_
          refine g_aload_n (pc' := 61)  hc rfl rfl rfl rfl ?_
          refine z_getR (pc' := 64)  hc rfl rfl rfl sh_75 rfl rfl ?_
          refine g_iconst (pc' := 65) (v := (3 : Int32)) hc rfl zki_3 rfl ?_
          refine g_aload_n (pc' := 66)  hc rfl rfl rfl rfl ?_
          refine z_getI (pc' := 69) (v := (I 75 60)) hc rfl rfl rfl sh_75 rfl rfl rfl ?_
          refine g_imul (pc' := 70)  hc rfl rfl ?_
          refine g_iconst (pc' := 71) (v := (1 : Int32)) hc rfl zki_1 rfl ?_
          refine g_iadd (pc' := 72)  hc rfl rfl ?_
          refine g_iload_n (pc' := 73)  hc rfl rfl rfl ?_
          have hb := (zwp_bnd h).1
          replace h := (zwp_bnd h).2
          refine z_iastore (pc' := 74) (g := (upd ((I 101)) ((3 : Int32) * ((I 75 60))).toNatClampNeg a1)) (L' := [(75, some 0, fun _ => o3), (75, some 60, fun _ => (I 75 60)), (82, none, (I 82)), (101, none, (upd (upd ((I 101)) ((3 : Int32) * ((I 75 60))).toNatClampNeg a1) (((3 : Int32) * ((I 75 60))) + (1 : Int32)).toNatClampNeg a2))]) hc rfl rfl sh_101 hb rfl rfl rfl rfl ?_
          refine g_aload_n (pc' := 75)  hc rfl rfl rfl rfl ?_
          refine z_getR (pc' := 78)  hc rfl rfl rfl sh_75 rfl rfl ?_
          refine g_iconst (pc' := 79) (v := (3 : Int32)) hc rfl zki_3 rfl ?_
          refine g_aload_n (pc' := 80)  hc rfl rfl rfl rfl ?_
          refine z_getI (pc' := 83) (v := (I 75 60)) hc rfl rfl rfl sh_75 rfl rfl rfl ?_
          refine g_imul (pc' := 84)  hc rfl rfl ?_
          refine g_iconst (pc' := 85) (v := (2 : Int32)) hc rfl zki_2 rfl ?_
          refine g_iadd (pc' := 86)  hc rfl rfl ?_
          refine g_iload_n (pc' := 87)  hc rfl rfl rfl ?_
          have hb := (zwp_bnd h).1
          replace h := (zwp_bnd h).2
          refine z_iastore (pc' := 88) (g := (upd (upd ((I 101)) ((3 : Int32) * ((I 75 60))).toNatClampNeg a1) (((3 : Int32) * ((I 75 60))) + (1 : Int32)).toNatClampNeg a2)) (L' := [(75, some 0, fun _ => o3), (75, some 60, fun _ => (I 75 60)), (82, none, (I 82)), (101, none, (upd (upd (upd ((I 101)) ((3 : Int32) * ((I 75 60))).toNatClampNeg a1) (((3 : Int32) * ((I 75 60))) + (1 : Int32)).toNatClampNeg a2) (((3 : Int32) * ((I 75 60))) + (2 : Int32)).toNatClampNeg a3))]) hc rfl rfl sh_101 hb rfl rfl rfl rfl ?_
          refine g_aload_n (pc' := 89)  hc rfl rfl rfl rfl ?_
          refine g_dup (pc' := 90)  hc rfl rfl rfl ?_
          refine z_getI (pc' := 93) (v := (I 75 60)) hc rfl rfl rfl sh_75 rfl rfl rfl ?_
          refine g_iconst (pc' := 94) (v := (1 : Int32)) hc rfl zki_1 rfl ?_
          refine g_iadd (pc' := 95)  hc rfl rfl ?_
          refine z_putI (pc' := 98) (L' := [(75, some 0, fun _ => o3), (75, some 60, fun _ => (((I 75 60)) + (1 : Int32))), (82, none, (I 82)), (101, none, (upd (upd (upd ((I 101)) ((3 : Int32) * ((I 75 60))).toNatClampNeg a1) (((3 : Int32) * ((I 75 60))) + (1 : Int32)).toNatClampNeg a2) (((3 : Int32) * ((I 75 60))) + (2 : Int32)).toNatClampNeg a3))]) hc rfl rfl rfl sh_75 rfl zft_12_60 rfl (fun h => Bool.noConfusion h) rfl rfl rfl ?_
          refine g_aload_n (pc' := 99)  hc rfl rfl rfl rfl ?_
          refine z_getI (pc' := 102) (v := (((I 75 60)) + (1 : Int32))) hc rfl rfl rfl sh_75 rfl rfl rfl ?_
          replace h := zws h
          exact g_ireturn hc rfl rfl rfl (fun _ => ⟨rfl, rfl⟩) h
        · replace h := zwp_t h hx
          refine g_aload_n (pc' := 43)  hc rfl rfl rfl rfl ?_
          refine g_iconst (pc' := 44) (v := (2 : Int32)) hc rfl zki_2 rfl ?_
          refine z_virt (as := [.int (2 : Int32)]) (a := 75) (r := []) hc rfl rfl rfl rfl sh_75 rfl zco_194 rfl rfl rfl ?_
          refine ok_X12_refuses_75 (zdp hd rfl) (zwp_mono (zwp_bind h) ?_)
          rintro ⟨r9, o8⟩ h
          refine z_po (pc' := 47) (st' := [.int r9]) (v := (some (.int r9))) (L' := [(75, some 0, fun _ => o3), (75, some 60, fun _ => (I 75 60)), (82, none, o8), (101, none, (I 101))]) (K' := []) zco_194 rfl rfl rfl rfl rfl rfl rfl rfl ?_
          replace h := zws h
          exact g_ireturn hc rfl rfl rfl (fun _ => ⟨rfl, rfl⟩) h
    · replace h := zwp_t h hx
      refine g_iconst (pc' := 22) (v := (0 : Int32)) hc rfl zki_0 rfl ?_
      replace h := zws h
      exact g_ireturn hc rfl rfl rfl (fun _ => ⟨rfl, rfl⟩) h
set_option maxRecDepth 4000 in
theorem ok_X12_forget_75 {p q : Nat} {I : pI} {J : pJ} {Q : pQ} {d : Nat} (hd : 1 ≤ d) (h : zwp (f_X12_forget (I 75 60) (I 75 0)) (fun w => match w with | (o0, o1) => Q (.inl none) (zS p q I [(75, some 0, fun _ => o1), (75, some 60, fun _ => o0)] J []))) : pm_call M cost zext d 252 [.ref 75] (pm_st 108 (shp p q) I J) Q := by
  obtain ⟨d, rfl⟩ := zd1 hd rfl
  have hc := pm_call_m (M := M) (cost := cost) zext_m d
  refine z_in (L := [(75, some 0, fun _ => (I 75 0)), (75, some 60, fun _ => (I 75 60))]) (K := []) (ls := [some (.ref 75)]) zmt_252 zco_252 rfl rfl (zid_s (zid_s zid_n)) zid_n ?_
  delta f_X12_forget at h
  refine g_aload_n (pc' := 1)  hc rfl rfl rfl rfl ?_
  refine g_iconst (pc' := 2) (v := (0 : Int32)) hc rfl zki_0 rfl ?_
  refine z_putI (pc' := 5) (L' := [(75, some 0, fun _ => (0 : Int32)), (75, some 60, fun _ => (I 75 60))]) hc rfl rfl rfl sh_75 rfl zft_12_0 rfl (fun h => Bool.noConfusion h) rfl rfl rfl ?_
  refine g_aload_n (pc' := 6)  hc rfl rfl rfl rfl ?_
  refine g_iconst (pc' := 7) (v := (0 : Int32)) hc rfl zki_0 rfl ?_
  refine z_putI (pc' := 10) (L' := [(75, some 0, fun _ => (0 : Int32)), (75, some 60, fun _ => (0 : Int32))]) hc rfl rfl rfl sh_75 rfl zft_12_60 rfl (fun h => Bool.noConfusion h) rfl rfl rfl ?_
  replace h := zws h
  exact g_return hc rfl rfl (fun _ => ⟨rfl, rfl⟩) h
set_option maxRecDepth 4000 in
theorem ok_X12_isNoted_75 {p q : Nat} {I : pI} {J : pJ} {Q : pQ} {d : Nat} (hd : 7 ≤ d) (h : zwp (f_X12_isNoted (I 80) (I 75 6) (I 75 53) (I 75 3) (I 75 7) (I 75 8) (I 79) (I 75 5) (I 101) (I 75 60) (I 94) (I 91) (I 102) (I 75 2) (I 93) (I 76) (I 77) (I 75 1)) (fun w => match w with | (r, o0, o1, o2, o3) => Q (.inl (some (.int r))) (zS p q I [(91, none, o1), (93, none, o3), (94, none, o0), (102, none, o2)] J []))) : pm_call M cost zext d 253 [.ref 75] (pm_st 108 (shp p q) I J) Q := by
  obtain ⟨d, rfl⟩ := zd1 hd rfl
  have hc := pm_call_m (M := M) (cost := cost) zext_m d
  refine z_in (L := [(91, none, (I 91)), (93, none, (I 93)), (94, none, (I 94)), (102, none, (I 102))]) (K := []) (ls := [some (.ref 75), none, none]) zmt_253 zco_253 rfl rfl (zid_a (zid_a (zid_a (zid_a zid_n)))) zid_n ?_
  delta f_X12_isNoted at h
  refine g_iconst (pc' := 1) (v := (0 : Int32)) hc rfl zki_0 rfl ?_
  refine g_istore_n (pc' := 2) (ls1 := [some (.ref 75), some (.int (0 : Int32)), none]) hc rfl (zlt rfl) rfl rfl ?_
  refine zjs (G := (fun (g : (Nat → Int32) × (Nat → Int32) × (Nat → Int32) × (Nat → Int32)) => match g with | (y9, y10, y11, y12) => ∀ z7 : Option Value, znl z7 = true → ∀ z8 : Option Value, znl z8 = true → pm_ev C_X12_isNoted (d + 1) (pm_call M cost zext d) cost (false, false) 108 0 0 Q 117 [some (.ref 75), z7, z8] [] 0 0 (zS p q I [(91, none, y10), (93, none, y12), (94, none, y9), (102, none, y11)] J []))) h ?_ (fun h => ?_)
  · rintro ⟨y9, y10, y11, y12⟩ h z7 hz7 z8 hz8
    refine g_iconst (pc' := 118) (v := (1 : Int32)) hc rfl zki_1 rfl ?_
    replace h := zws h
    exact g_ireturn hc rfl rfl rfl (fun _ => ⟨rfl, rfl⟩) h
  refine zitr_ev (G := (fun (g : Int32 × (Nat → Int32) × (Nat → Int32) × (Nat → Int32) × (Nat → Int32)) => match g with | (x1, x3, x4, x5, x6) => ∀ z2 : Option Value, znl z2 = true → pm_ev C_X12_isNoted (d + 1) (pm_call M cost zext d) cost (false, false) 108 0 0 Q 2 [some (.ref 75), some (.int x1), z2] [] 0 0 (zS p q I [(91, none, x4), (93, none, x6), (94, none, x3), (102, none, x5)] J []))) ?_ zFU ((0 : Int32), (I 94), (I 91), (I 102), (I 93)) h none rfl
  rintro ⟨x1, x3, x4, x5, x6⟩ h z2 hz2
  refine g_iload_n (pc' := 3)  hc rfl rfl rfl ?_
  refine g_bipush (pc' := 5) (v := (20 : Int32)) hc rfl zkb_20 rfl ?_
  refine g_icmp_gt (pc' := 8) hc rfl rfl (fun hx => ?_) (fun hx => ?_)
  · replace h := zwp_t h hx
    replace h := zwp_r h
    exact h (some (.int x1)) rfl z2 hz2
  · replace h := zwp_f h hx
    refine g_iconst (pc' := 9) (v := (0 : Int32)) hc rfl zki_0 rfl ?_
    refine g_istore_n (pc' := 10) (ls1 := [some (.ref 75), some (.int x1), some (.int (0 : Int32))]) hc rfl (zlt rfl) rfl rfl ?_
    refine zjs (G := (fun (_ : Unit) => ∀ z14 : Option Value, znl z14 = true → pm_ev C_X12_isNoted (d + 1) (pm_call M cost zext d) cost (false, false) 108 0 0 Q 69 [some (.ref 75), some (.int x1), z14] [] 0 0 (zS p q I [(91, none, x4), (93, none, x6), (94, none, x3), (102, none, x5)] J []))) h ?_ (fun h => ?_)
    · rintro _ h z14 hz14
      refine g_iload_n (pc' := 70)  hc rfl rfl rfl ?_
      refine g_iconst (pc' := 71) (v := (5 : Int32)) hc rfl zki_5 rfl ?_
      refine zjn (G := (fun (j16 : (Nat → Int32)) => ∀ z15 : Option Value, znl z15 = true → pm_ev C_X12_isNoted (d + 1) (pm_call M cost zext d) cost (false, false) 108 0 0 Q 105 [some (.ref 75), some (.int x1), z15] [] 0 0 (zS p q I [(91, none, x4), (93, none, x6), (94, none, x3), (102, none, j16)] J []))) (zwp_bind h) ?_ (fun h => ?_)
      · rintro j16 h z15 hz15
        refine g_aload_n (pc' := 106)  hc rfl rfl rfl rfl ?_
        refine g_bipush (pc' := 108) (v := (70 : Int32)) hc rfl zkb_70 rfl ?_
        refine z_virt (as := [.int (70 : Int32)]) (a := 75) (r := []) hc rfl rfl rfl rfl sh_75 rfl zco_209 rfl rfl rfl ?_
        refine ok_X12_hourGoes_75 (zdp hd rfl) (zwp_mono (zwp_bind h) ?_)
        rintro ⟨o17, o18, o19⟩ h
        refine z_po (pc' := 111) (st' := []) (v := none) (L' := [(91, none, o18), (93, none, o19), (94, none, o17), (102, none, j16)]) (K' := []) zco_209 rfl rfl rfl rfl rfl rfl rfl rfl ?_
        refine g_iinc (pc' := 114) (ls1 := [some (.ref 75), some (.int (x1 + (1 : Int32))), z15]) hc rfl rfl zki_1 (zlt rfl) rfl rfl ?_
        refine g_goto hc rfl ?_
        replace h := zwp_l h
        exact h z15 hz15
      refine g_icmp_ne (pc' := 74) hc rfl rfl (fun hx => ?_) (fun hx => ?_)
      · replace h := zwp_f h hx
        replace h := zws h
        exact h z14 hz14
      · replace h := zwp_t h hx
        refine g_iconst (pc' := 75) (v := (0 : Int32)) hc rfl zki_0 rfl ?_
        refine g_istore_n (pc' := 76) (ls1 := [some (.ref 75), some (.int x1), some (.int (0 : Int32))]) hc rfl (zlt rfl) rfl rfl ?_
        refine zjn (G := (fun (y23 : (Nat → Int32)) => ∀ z22 : Option Value, znl z22 = true → pm_ev C_X12_isNoted (d + 1) (pm_call M cost zext d) cost (false, false) 108 0 0 Q 105 [some (.ref 75), some (.int x1), z22] [] 0 0 (zS p q I [(91, none, x4), (93, none, x6), (94, none, x3), (102, none, y23)] J []))) (zwp_bind h) ?_ (fun h => ?_)
        · rintro y23 h z22 hz22
          replace h := zws h
          exact h z22 hz22
        refine zitr_ev (G := (fun (g : Int32 × (Nat → Int32)) => match g with | (x20, x21) => pm_ev C_X12_isNoted (d + 1) (pm_call M cost zext d) cost (false, false) 108 0 0 Q 76 [some (.ref 75), some (.int x1), some (.int x20)] [] 0 0 (zS p q I [(91, none, x4), (93, none, x6), (94, none, x3), (102, none, x21)] J []))) ?_ zFU ((0 : Int32), x5) h
        rintro ⟨x20, x21⟩ h
        refine g_iload_n (pc' := 77)  hc rfl rfl rfl ?_
        refine g_aload_n (pc' := 78)  hc rfl rfl rfl rfl ?_
        refine z_getI (pc' := 81) (v := (I 75 3)) hc rfl rfl rfl sh_75 rfl rfl rfl ?_
        refine g_icmp_ge (pc' := 84) hc rfl rfl (fun hx => ?_) (fun hx => ?_)
        · replace h := zwp_t h hx
          replace h := zwp_r h
          exact h (some (.int x20)) rfl
        · replace h := zwp_f h hx
          refine g_aload_n (pc' := 85)  hc rfl rfl rfl rfl ?_
          refine z_getR (pc' := 88)  hc rfl rfl rfl sh_75 rfl rfl ?_
          refine g_iload_n (pc' := 89)  hc rfl rfl rfl ?_
          refine g_aload_n (pc' := 90)  hc rfl rfl rfl rfl ?_
          refine z_getR (pc' := 93)  hc rfl rfl rfl sh_75 rfl rfl ?_
          refine g_bipush (pc' := 95) (v := (71 : Int32)) hc rfl zkb_71 rfl ?_
          refine g_iload_n (pc' := 96)  hc rfl rfl rfl ?_
          refine g_iadd (pc' := 97)  hc rfl rfl ?_
          have hb := (zwp_bnd h).1
          replace h := (zwp_bnd h).2
          refine z_iaload (pc' := 98) (v := (x4 ((71 : Int32) + x20).toNatClampNeg)) hc rfl rfl sh_91 hb rfl rfl ?_
          have hb := (zwp_bnd h).1
          replace h := (zwp_bnd h).2
          refine z_iastore (pc' := 99) (g := x21) (L' := [(91, none, x4), (93, none, x6), (94, none, x3), (102, none, (upd x21 x20.toNatClampNeg (x4 ((71 : Int32) + x20).toNatClampNeg)))]) hc rfl rfl sh_102 hb rfl rfl rfl rfl ?_
          refine g_iinc (pc' := 102) (ls1 := [some (.ref 75), some (.int x1), some (.int (x20 + (1 : Int32)))]) hc rfl rfl zki_1 (zlt rfl) rfl rfl ?_
          refine g_goto hc rfl ?_
          replace h := zwp_l h
          exact h
    refine zitr_ev (G := (fun (x13 : Int32) => pm_ev C_X12_isNoted (d + 1) (pm_call M cost zext d) cost (false, false) 108 0 0 Q 10 [some (.ref 75), some (.int x1), some (.int x13)] [] 0 0 (zS p q I [(91, none, x4), (93, none, x6), (94, none, x3), (102, none, x5)] J []))) ?_ zFU (0 : Int32) h
    rintro x13 h
    refine g_iload_n (pc' := 11)  hc rfl rfl rfl ?_
    refine g_aload_n (pc' := 12)  hc rfl rfl rfl rfl ?_
    refine z_getI (pc' := 15) (v := (I 75 60)) hc rfl rfl rfl sh_75 rfl rfl rfl ?_
    refine g_icmp_ge (pc' := 18) hc rfl rfl (fun hx => ?_) (fun hx => ?_)
    · replace h := zwp_t h hx
      replace h := zwp_r h
      exact h (some (.int x13)) rfl
    · replace h := zwp_f h hx
      refine g_aload_n (pc' := 19)  hc rfl rfl rfl rfl ?_
      refine z_getR (pc' := 22)  hc rfl rfl rfl sh_75 rfl rfl ?_
      refine g_iconst (pc' := 23) (v := (3 : Int32)) hc rfl zki_3 rfl ?_
      refine g_iload_n (pc' := 24)  hc rfl rfl rfl ?_
      refine g_imul (pc' := 25)  hc rfl rfl ?_
      refine g_iconst (pc' := 26) (v := (2 : Int32)) hc rfl zki_2 rfl ?_
      refine g_iadd (pc' := 27)  hc rfl rfl ?_
      have hb := (zwp_bnd h).1
      replace h := (zwp_bnd h).2
      refine z_iaload (pc' := 28) (v := (((I 101)) (((3 : Int32) * x13) + (2 : Int32)).toNatClampNeg)) hc rfl rfl sh_101 hb rfl rfl ?_
      refine g_iload_n (pc' := 29)  hc rfl rfl rfl ?_
      refine g_icmp_ne (pc' := 32) hc rfl rfl (fun hx => ?_) (fun hx => ?_)
      · replace h := zwp_f h hx
        refine g_iinc (pc' := 66) (ls1 := [some (.ref 75), some (.int x1), some (.int (x13 + (1 : Int32)))]) hc rfl rfl zki_1 (zlt rfl) rfl rfl ?_
        refine g_goto hc rfl ?_
        replace h := zwp_l h
        exact h
      · replace h := zwp_t h hx
        refine g_aload_n (pc' := 33)  hc rfl rfl rfl rfl ?_
        refine z_getR (pc' := 36)  hc rfl rfl rfl sh_75 rfl rfl ?_
        refine g_bipush (pc' := 38) (v := (71 : Int32)) hc rfl zkb_71 rfl ?_
        refine g_aload_n (pc' := 39)  hc rfl rfl rfl rfl ?_
        refine z_getR (pc' := 42)  hc rfl rfl rfl sh_75 rfl rfl ?_
        refine g_iconst (pc' := 43) (v := (3 : Int32)) hc rfl zki_3 rfl ?_
        refine g_iload_n (pc' := 44)  hc rfl rfl rfl ?_
        refine g_imul (pc' := 45)  hc rfl rfl ?_
        have hb := (zwp_bnd h).1
        replace h := (zwp_bnd h).2
        refine z_iaload (pc' := 46) (v := (((I 101)) ((3 : Int32) * x13).toNatClampNeg)) hc rfl rfl sh_101 hb rfl rfl ?_
        refine g_iadd (pc' := 47)  hc rfl rfl ?_
        have hb := (zwp_bnd h).1
        replace h := (zwp_bnd h).2
        refine z_iaload (pc' := 48) (v := (x4 ((71 : Int32) + (((I 101)) ((3 : Int32) * x13).toNatClampNeg)).toNatClampNeg)) hc rfl rfl sh_91 hb rfl rfl ?_
        refine g_aload_n (pc' := 49)  hc rfl rfl rfl rfl ?_
        refine z_getR (pc' := 52)  hc rfl rfl rfl sh_75 rfl rfl ?_
        refine g_iconst (pc' := 53) (v := (3 : Int32)) hc rfl zki_3 rfl ?_
        refine g_iload_n (pc' := 54)  hc rfl rfl rfl ?_
        refine g_imul (pc' := 55)  hc rfl rfl ?_
        refine g_iconst (pc' := 56) (v := (1 : Int32)) hc rfl zki_1 rfl ?_
        refine g_iadd (pc' := 57)  hc rfl rfl ?_
        have hb := (zwp_bnd h).1
        replace h := (zwp_bnd h).2
        refine z_iaload (pc' := 58) (v := (((I 101)) (((3 : Int32) * x13) + (1 : Int32)).toNatClampNeg)) hc rfl rfl sh_101 hb rfl rfl ?_
        refine g_icmp_eq (pc' := 61) hc rfl rfl (fun hx => ?_) (fun hx => ?_)
        · replace h := zwp_t h hx
          refine g_iinc (pc' := 66) (ls1 := [some (.ref 75), some (.int x1), some (.int (x13 + (1 : Int32)))]) hc rfl rfl zki_1 (zlt rfl) rfl rfl ?_
          refine g_goto hc rfl ?_
          replace h := zwp_l h
          exact h
        · replace h := zwp_f h hx
          refine g_iconst (pc' := 62) (v := (0 : Int32)) hc rfl zki_0 rfl ?_
          replace h := zws h
          exact g_ireturn hc rfl rfl rfl (fun _ => ⟨rfl, rfl⟩) h
set_option maxRecDepth 4000 in
theorem ok_X12_isGuess_75 {p q : Nat} {I : pI} {J : pJ} {a1 : Int32} {Q : pQ} {d : Nat} (hd : 8 ≤ d) (h : zwp (f_X12_isGuess a1 (I 80) (I 75 6) (I 75 53) (I 75 3) (I 75 7) (I 75 8) (I 79) (I 75 5) (I 101) (I 75 60) (I 94) (I 91) (I 102) (I 75 2) (I 93) (I 76) (I 77) (I 75 1)) (fun w => match w with | (r, o0, o1, o2, o3) => Q (.inl (some (.int r))) (zS p q I [(91, none, o1), (93, none, o3), (94, none, o0), (102, none, o2)] J []))) : pm_call M cost zext d 254 [.ref 75, .int a1] (pm_st 108 (shp p q) I J) Q := by
  obtain ⟨d, rfl⟩ := zd1 hd rfl
  have hc := pm_call_m (M := M) (cost := cost) zext_m d
  refine z_in (L := [(91, none, (I 91)), (93, none, (I 93)), (94, none, (I 94)), (102, none, (I 102))]) (K := []) (ls := [some (.ref 75), some (.int a1), none]) zmt_254 zco_254 rfl rfl (zid_a (zid_a (zid_a (zid_a zid_n)))) zid_n ?_
  delta f_X12_isGuess at h
  refine g_iload_n (pc' := 1)  hc rfl rfl rfl ?_
  refine g_bipush (pc' := 3) (v := (10 : Int32)) hc rfl zkb_10 rfl ?_
  refine g_idiv (pc' := 4)  hc rfl (by decide) rfl ?_
  refine g_istore_n (pc' := 5) (ls1 := [some (.ref 75), some (.int a1), some (.int (a1 / (10 : Int32)))]) hc rfl (zlt rfl) rfl rfl ?_
  refine g_iload_n (pc' := 6)  hc rfl rfl rfl ?_
  refine g_bipush (pc' := 8) (v := (10 : Int32)) hc rfl zkb_10 rfl ?_
  refine g_irem (pc' := 9)  hc rfl (by decide) rfl ?_
  refine g_aload_n (pc' := 10)  hc rfl rfl rfl rfl ?_
  refine z_getR (pc' := 13)  hc rfl rfl rfl sh_75 rfl rfl ?_
  refine g_iload_n (pc' := 14)  hc rfl rfl rfl ?_
  have hb := (zwp_bnd h).1
  replace h := (zwp_bnd h).2
  refine z_iaload (pc' := 15) (v := (((I 76)) (a1 / (10 : Int32)).toNatClampNeg)) hc rfl rfl sh_76 hb rfl rfl ?_
  refine g_icmp_ge (pc' := 18) hc rfl rfl (fun hx => ?_) (fun hx => ?_)
  · replace h := zwp_t h hx
    refine g_iconst (pc' := 35) (v := (0 : Int32)) hc rfl zki_0 rfl ?_
    replace h := zws h
    exact g_ireturn hc rfl rfl rfl (fun _ => ⟨rfl, rfl⟩) h
  · replace h := zwp_f h hx
    refine g_aload_n (pc' := 19)  hc rfl rfl rfl rfl ?_
    refine z_getR (pc' := 22)  hc rfl rfl rfl sh_75 rfl rfl ?_
    refine g_bipush (pc' := 24) (v := (25 : Int32)) hc rfl zkb_25 rfl ?_
    refine g_iload_n (pc' := 25)  hc rfl rfl rfl ?_
    refine g_iadd (pc' := 26)  hc rfl rfl ?_
    have hb := (zwp_bnd h).1
    replace h := (zwp_bnd h).2
    refine z_iaload (pc' := 27) (v := (((I 91)) ((25 : Int32) + (a1 / (10 : Int32))).toNatClampNeg)) hc rfl rfl sh_91 hb rfl rfl ?_
    refine g_iload_n (pc' := 28)  hc rfl rfl rfl ?_
    refine g_bipush (pc' := 30) (v := (10 : Int32)) hc rfl zkb_10 rfl ?_
    refine g_irem (pc' := 31)  hc rfl (by decide) rfl ?_
    refine g_icmp_ne (pc' := 34) hc rfl rfl (fun hx => ?_) (fun hx => ?_)
    · replace h := zwp_f h hx
      refine g_aload_n (pc' := 37)  hc rfl rfl rfl rfl ?_
      refine z_virt (as := []) (a := 75) (r := []) hc rfl rfl rfl rfl sh_75 rfl zco_196 rfl rfl rfl ?_
      refine ok_X12_tries_75 (zdp hd rfl) (zwp_mono (zwp_bind h) ?_)
      rintro o1 h
      refine z_po (pc' := 40) (st' := []) (v := none) (L' := [(91, none, o1), (93, none, (I 93)), (94, none, (I 94)), (102, none, (I 102))]) (K' := []) zco_196 rfl rfl rfl rfl rfl rfl rfl rfl ?_
      refine g_aload_n (pc' := 41)  hc rfl rfl rfl rfl ?_
      refine z_getR (pc' := 44)  hc rfl rfl rfl sh_75 rfl rfl ?_
      refine g_bipush (pc' := 46) (v := (95 : Int32)) hc rfl zkb_95 rfl ?_
      refine g_iload_n (pc' := 47)  hc rfl rfl rfl ?_
      refine g_iadd (pc' := 48)  hc rfl rfl ?_
      refine g_iload_n (pc' := 49)  hc rfl rfl rfl ?_
      refine g_bipush (pc' := 51) (v := (10 : Int32)) hc rfl zkb_10 rfl ?_
      refine g_irem (pc' := 52)  hc rfl (by decide) rfl ?_
      have hb := (zwp_bnd h).1
      replace h := (zwp_bnd h).2
      refine z_iastore (pc' := 53) (g := o1) (L' := [(91, none, (upd o1 ((95 : Int32) + (a1 / (10 : Int32))).toNatClampNeg (a1 - a1 / (10 : Int32) * (10 : Int32)))), (93, none, (I 93)), (94, none, (I 94)), (102, none, (I 102))]) hc rfl rfl sh_91 hb rfl rfl rfl rfl ?_
      refine g_aload_n (pc' := 54)  hc rfl rfl rfl rfl ?_
      refine z_virt (as := []) (a := 75) (r := []) hc rfl rfl rfl rfl sh_75 rfl zco_253 rfl rfl rfl ?_
      refine ok_X12_isNoted_75 (zdp hd rfl) (zwp_mono (zwp_bind h) ?_)
      rintro ⟨r6, o2, o3, o4, o5⟩ h
      refine z_po (pc' := 57) (st' := [.int r6]) (v := (some (.int r6))) (L' := [(91, none, o3), (93, none, o5), (94, none, o2), (102, none, o4)]) (K' := []) zco_253 rfl rfl rfl rfl rfl rfl rfl rfl ?_
      have hz := (zwp_bol h).1
      replace h := (zwp_bol h).2
      replace h := zws h
      exact g_ireturn hc rfl rfl hz (fun _ => ⟨rfl, rfl⟩) h
    · replace h := zwp_t h hx
      refine g_iconst (pc' := 35) (v := (0 : Int32)) hc rfl zki_0 rfl ?_
      replace h := zws h
      exact g_ireturn hc rfl rfl rfl (fun _ => ⟨rfl, rfl⟩) h
set_option maxRecDepth 4000 in
theorem ok_X12_ahead_75 {p q : Nat} {I : pI} {J : pJ} {a1 : Int32} {Q : pQ} {d : Nat} (hd : 9 ≤ d) (h : zwp (f_X12_ahead a1 (I 80) (I 75 6) (I 75 53) (I 75 3) (I 75 7) (I 75 8) (I 79) (I 75 5) (I 101) (I 75 60) (I 94) (I 91) (I 102) (I 75 2) (I 75 0) (I 93) (I 76) (I 77) (I 75 1)) (fun w => match w with | (r, o0, o1, o2, o3, o4) => Q (.inl (some (.int r))) (zS p q I [(75, some 0, fun _ => o3), (91, none, o1), (93, none, o4), (94, none, o0), (102, none, o2)] J []))) : pm_call M cost zext d 255 [.ref 75, .int a1] (pm_st 108 (shp p q) I J) Q := by
  obtain ⟨d, rfl⟩ := zd1 hd rfl
  have hc := pm_call_m (M := M) (cost := cost) zext_m d
  refine z_in (L := [(75, some 0, fun _ => (I 75 0)), (91, none, (I 91)), (93, none, (I 93)), (94, none, (I 94)), (102, none, (I 102))]) (K := []) (ls := [some (.ref 75), some (.int a1), none, none, none]) zmt_255 zco_255 rfl rfl (zid_s (zid_a (zid_a (zid_a (zid_a zid_n))))) zid_n ?_
  delta f_X12_ahead at h
  refine g_aload_n (pc' := 1)  hc rfl rfl rfl rfl ?_
  refine g_iconst (pc' := 2) (v := (0 : Int32)) hc rfl zki_0 rfl ?_
  refine z_putI (pc' := 5) (L' := [(75, some 0, fun _ => (0 : Int32)), (91, none, (I 91)), (93, none, (I 93)), (94, none, (I 94)), (102, none, (I 102))]) hc rfl rfl rfl sh_75 rfl zft_12_0 rfl (fun h => Bool.noConfusion h) rfl rfl rfl ?_
  refine g_aload_n (pc' := 6)  hc rfl rfl rfl rfl ?_
  refine g_iload_n (pc' := 7)  hc rfl rfl rfl ?_
  refine g_iconst (pc' := 8) (v := (2 : Int32)) hc rfl zki_2 rfl ?_
  refine z_virt (as := [.int a1, .int (2 : Int32)]) (a := 75) (r := []) hc rfl rfl rfl rfl sh_75 rfl zco_218 rfl rfl rfl ?_
  refine ok_X12_isWhat_75 (zdp hd rfl) (zwp_mono (zwp_bind h) ?_)
  rintro ⟨r2, o1⟩ h
  refine z_po (pc' := 11) (st' := [.int r2]) (v := (some (.int r2))) (L' := [(75, some 0, fun _ => o1), (91, none, (I 91)), (93, none, (I 93)), (94, none, (I 94)), (102, none, (I 102))]) (K' := []) zco_218 rfl rfl rfl rfl rfl rfl rfl rfl ?_
  refine g_if_ne (pc' := 14) hc rfl rfl (fun hx => ?_) (fun hx => ?_)
  · replace h := zwp_f h hx
    refine g_iload_n (pc' := 17)  hc rfl rfl rfl ?_
    refine g_iconst (pc' := 18) (v := (2 : Int32)) hc rfl zki_2 rfl ?_
    refine g_icmp_ne (pc' := 21) hc rfl rfl (fun hx => ?_) (fun hx => ?_)
    · replace h := zwp_f h hx
      refine g_iconst (pc' := 39) (v := (0 : Int32)) hc rfl zki_0 rfl ?_
      refine g_istore_n (pc' := 40) (ls1 := [some (.ref 75), some (.int a1), some (.int (0 : Int32)), none, none]) hc rfl (zlt rfl) rfl rfl ?_
      refine g_iconst (pc' := 41) (v := (-1 : Int32)) hc rfl zki_m1 rfl ?_
      refine g_istore_n (pc' := 42) (ls1 := [some (.ref 75), some (.int a1), some (.int (0 : Int32)), some (.int (-1 : Int32)), none]) hc rfl (zlt rfl) rfl rfl ?_
      refine g_iconst (pc' := 43) (v := (0 : Int32)) hc rfl zki_0 rfl ?_
      refine g_istore (pc' := 45) (ls1 := [some (.ref 75), some (.int a1), some (.int (0 : Int32)), some (.int (-1 : Int32)), some (.int (0 : Int32))]) hc rfl (zlt rfl) rfl rfl ?_
      refine zjn (G := (fun (g : Int32 × Int32 × (Nat → Int32) × (Nat → Int32) × (Nat → Int32) × (Nat → Int32)) => match g with | (y10, y11, y13, y14, y15, y16) => ∀ z12 : Option Value, znl z12 = true → pm_ev C_X12_ahead (d + 1) (pm_call M cost zext d) cost (false, false) 108 0 0 Q 86 [some (.ref 75), some (.int a1), some (.int y10), some (.int y11), z12] [] 0 0 (zS p q I [(75, some 0, fun _ => o1), (91, none, y14), (93, none, y16), (94, none, y13), (102, none, y15)] J []))) (zwp_bind h) ?_ (fun h => ?_)
      · rintro ⟨y10, y11, y13, y14, y15, y16⟩ h z12 hz12
        refine g_iload_n (pc' := 87)  hc rfl rfl rfl ?_
        refine g_if_ne (pc' := 90) hc rfl rfl (fun hx => ?_) (fun hx => ?_)
        · replace h := zwp_f h hx
          refine g_iload_n (pc' := 95)  hc rfl rfl rfl ?_
          replace h := zws h
          exact g_ireturn hc rfl rfl rfl (fun _ => ⟨rfl, rfl⟩) h
        · replace h := zwp_t h hx
          refine g_iload_n (pc' := 91)  hc rfl rfl rfl ?_
          refine g_goto hc rfl ?_
          replace h := zws h
          exact g_ireturn hc rfl rfl rfl (fun _ => ⟨rfl, rfl⟩) h
      refine zitr_ev (G := (fun (g : Int32 × Int32 × Int32 × (Nat → Int32) × (Nat → Int32) × (Nat → Int32) × (Nat → Int32)) => match g with | (x3, x4, x5, x6, x7, x8, x9) => pm_ev C_X12_ahead (d + 1) (pm_call M cost zext d) cost (false, false) 108 0 0 Q 45 [some (.ref 75), some (.int a1), some (.int x3), some (.int x4), some (.int x5)] [] 0 0 (zS p q I [(75, some 0, fun _ => o1), (91, none, x7), (93, none, x9), (94, none, x6), (102, none, x8)] J []))) ?_ zFU ((0 : Int32), (-1 : Int32), (0 : Int32), (I 94), (I 91), (I 102), (I 93)) h
      rintro ⟨x3, x4, x5, x6, x7, x8, x9⟩ h
      refine g_iload (pc' := 47)  hc rfl rfl rfl ?_
      refine g_bipush (pc' := 49) (v := (10 : Int32)) hc rfl zkb_10 rfl ?_
      refine g_aload_n (pc' := 50)  hc rfl rfl rfl rfl ?_
      refine z_getI (pc' := 53) (v := (I 75 3)) hc rfl rfl rfl sh_75 rfl rfl rfl ?_
      refine g_imul (pc' := 54)  hc rfl rfl ?_
      refine g_icmp_ge (pc' := 57) hc rfl rfl (fun hx => ?_) (fun hx => ?_)
      · replace h := zwp_t h hx
        replace h := zwp_r h
        exact h (some (.int x5)) rfl
      · replace h := zwp_f h hx
        refine g_aload_n (pc' := 58)  hc rfl rfl rfl rfl ?_
        refine g_iload (pc' := 60)  hc rfl rfl rfl ?_
        refine z_virt (as := [.int x5]) (a := 75) (r := []) hc rfl rfl rfl rfl sh_75 rfl zco_254 rfl rfl rfl ?_
        refine ok_X12_isGuess_75 (zdp hd rfl) (zwp_mono (zwp_bind h) ?_)
        rintro ⟨r21, o17, o18, o19, o20⟩ h
        refine z_po (pc' := 63) (st' := [.int r21]) (v := (some (.int r21))) (L' := [(75, some 0, fun _ => o1), (91, none, o18), (93, none, o20), (94, none, o17), (102, none, o19)]) (K' := []) zco_254 rfl rfl rfl rfl rfl rfl rfl rfl ?_
        refine g_if_ne (pc' := 66) hc rfl rfl (fun hx => ?_) (fun hx => ?_)
        · replace h := zwp_f h hx
          refine g_iinc (pc' := 72) (ls1 := [some (.ref 75), some (.int a1), some (.int (x3 + (1 : Int32))), some (.int x4), some (.int x5)]) hc rfl rfl zki_1 (zlt rfl) rfl rfl ?_
          refine g_iload_n (pc' := 73)  hc rfl rfl rfl ?_
          refine g_iconst (pc' := 74) (v := (-1 : Int32)) hc rfl zki_m1 rfl ?_
          refine g_icmp_ne (pc' := 77) hc rfl rfl (fun hx => ?_) (fun hx => ?_)
          · replace h := zwp_f h hx
            refine g_iinc (pc' := 83) (ls1 := [some (.ref 75), some (.int a1), some (.int (x3 + (1 : Int32))), some (.int x4), some (.int (x5 + (1 : Int32)))]) hc rfl rfl zki_1 (zlt rfl) rfl rfl ?_
            refine g_goto hc rfl ?_
            replace h := zwp_l h
            exact h
          · replace h := zwp_t h hx
            refine g_iload (pc' := 79)  hc rfl rfl rfl ?_
            refine g_istore_n (pc' := 80) (ls1 := [some (.ref 75), some (.int a1), some (.int (x3 + (1 : Int32))), some (.int x5), some (.int x5)]) hc rfl (zlt rfl) rfl rfl ?_
            refine g_iinc (pc' := 83) (ls1 := [some (.ref 75), some (.int a1), some (.int (x3 + (1 : Int32))), some (.int x5), some (.int (x5 + (1 : Int32)))]) hc rfl rfl zki_1 (zlt rfl) rfl rfl ?_
            refine g_goto hc rfl ?_
            replace h := zwp_l h
            exact h
        · replace h := zwp_t h hx
          refine g_goto hc rfl ?_
          refine g_iinc (pc' := 83) (ls1 := [some (.ref 75), some (.int a1), some (.int x3), some (.int x4), some (.int (x5 + (1 : Int32)))]) hc rfl rfl zki_1 (zlt rfl) rfl rfl ?_
          refine g_goto hc rfl ?_
          replace h := zwp_l h
          exact h
    · replace h := zwp_t h hx
      refine g_aload_n (pc' := 22)  hc rfl rfl rfl rfl ?_
      refine z_virt (as := []) (a := 75) (r := []) hc rfl rfl rfl rfl sh_75 rfl zco_196 rfl rfl rfl ?_
      refine ok_X12_tries_75 (zdp hd rfl) (zwp_mono (zwp_bind h) ?_)
      rintro o22 h
      refine z_po (pc' := 25) (st' := []) (v := none) (L' := [(75, some 0, fun _ => o1), (91, none, o22), (93, none, (I 93)), (94, none, (I 94)), (102, none, (I 102))]) (K' := []) zco_196 rfl rfl rfl rfl rfl rfl rfl rfl ?_
      refine g_aload_n (pc' := 26)  hc rfl rfl rfl rfl ?_
      refine z_virt (as := []) (a := 75) (r := []) hc rfl rfl rfl rfl sh_75 rfl zco_253 rfl rfl rfl ?_
      refine ok_X12_isNoted_75 (zdp hd rfl) (zwp_mono (zwp_bind h) ?_)
      rintro ⟨r27, o23, o24, o25, o26⟩ h
      refine z_po (pc' := 29) (st' := [.int r27]) (v := (some (.int r27))) (L' := [(75, some 0, fun _ => o1), (91, none, o24), (93, none, o26), (94, none, o23), (102, none, o25)]) (K' := []) zco_253 rfl rfl rfl rfl rfl rfl rfl rfl ?_
      refine g_if_eq (pc' := 32) hc rfl rfl (fun hx => ?_) (fun hx => ?_)
      · replace h := zwp_t h hx
        refine g_iconst (pc' := 37) (v := (0 : Int32)) hc rfl zki_0 rfl ?_
        replace h := zws h
        exact g_ireturn hc rfl rfl rfl (fun _ => ⟨rfl, rfl⟩) h
      · replace h := zwp_f h hx
        refine g_iconst (pc' := 33) (v := (1 : Int32)) hc rfl zki_1 rfl ?_
        refine g_goto hc rfl ?_
        replace h := zws h
        exact g_ireturn hc rfl rfl rfl (fun _ => ⟨rfl, rfl⟩) h
  · replace h := zwp_t h hx
    refine g_iconst (pc' := 15) (v := (0 : Int32)) hc rfl zki_0 rfl ?_
    replace h := zws h
    exact g_ireturn hc rfl rfl rfl (fun _ => ⟨rfl, rfl⟩) h
set_option maxRecDepth 4000 in
theorem ok_X12_look_75 {p q : Nat} {I : pI} {J : pJ} {a1 : Int32} {Q : pQ} {d : Nat} (hd : 9 ≤ d) (h : zwp (f_X12_look a1 (I 80) (I 75 6) (I 75 53) (I 75 3) (I 75 7) (I 75 8) (I 79) (I 75 5) (I 101) (I 75 60) (I 94) (I 91) (I 102) (I 103) (I 75 2) (I 75 0) (I 93) (I 76) (I 77) (I 75 1)) (fun w => match w with | (r, o0, o1, o2, o3, o4, o5) => Q (.inl (some (.int r))) (zS p q I [(75, some 0, fun _ => o4), (91, none, o1), (93, none, o5), (94, none, o0), (102, none, o2), (103, none, o3)] J []))) : pm_call M cost zext d 256 [.ref 75, .int a1] (pm_st 108 (shp p q) I J) Q := by
  obtain ⟨d, rfl⟩ := zd1 hd rfl
  have hc := pm_call_m (M := M) (cost := cost) zext_m d
  refine z_in (L := [(75, some 0, fun _ => (I 75 0)), (91, none, (I 91)), (93, none, (I 93)), (94, none, (I 94)), (102, none, (I 102)), (103, none, (I 103))]) (K := []) (ls := [some (.ref 75), some (.int a1), none, none, none, none, none, none, none, none]) zmt_256 zco_256 rfl rfl (zid_s (zid_a (zid_a (zid_a (zid_a (zid_a zid_n)))))) zid_n ?_
  delta f_X12_look at h
  refine g_aload_n (pc' := 1)  hc rfl rfl rfl rfl ?_
  refine g_iconst (pc' := 2) (v := (0 : Int32)) hc rfl zki_0 rfl ?_
  refine z_putI (pc' := 5) (L' := [(75, some 0, fun _ => (0 : Int32)), (91, none, (I 91)), (93, none, (I 93)), (94, none, (I 94)), (102, none, (I 102)), (103, none, (I 103))]) hc rfl rfl rfl sh_75 rfl zft_12_0 rfl (fun h => Bool.noConfusion h) rfl rfl rfl ?_
  refine g_aload_n (pc' := 6)  hc rfl rfl rfl rfl ?_
  refine g_iload_n (pc' := 7)  hc rfl rfl rfl ?_
  refine g_iconst (pc' := 8) (v := (1 : Int32)) hc rfl zki_1 rfl ?_
  refine z_virt (as := [.int a1, .int (1 : Int32)]) (a := 75) (r := []) hc rfl rfl rfl rfl sh_75 rfl zco_218 rfl rfl rfl ?_
  refine ok_X12_isWhat_75 (zdp hd rfl) (zwp_mono (zwp_bind h) ?_)
  rintro ⟨r2, o1⟩ h
  refine z_po (pc' := 11) (st' := [.int r2]) (v := (some (.int r2))) (L' := [(75, some 0, fun _ => o1), (91, none, (I 91)), (93, none, (I 93)), (94, none, (I 94)), (102, none, (I 102)), (103, none, (I 103))]) (K' := []) zco_218 rfl rfl rfl rfl rfl rfl rfl rfl ?_
  refine g_if_ne (pc' := 14) hc rfl rfl (fun hx => ?_) (fun hx => ?_)
  · replace h := zwp_f h hx
    refine g_iconst (pc' := 17) (v := (0 : Int32)) hc rfl zki_0 rfl ?_
    refine g_istore_n (pc' := 18) (ls1 := [some (.ref 75), some (.int a1), some (.int (0 : Int32)), none, none, none, none, none, none, none]) hc rfl (zlt rfl) rfl rfl ?_
    refine g_iconst (pc' := 19) (v := (0 : Int32)) hc rfl zki_0 rfl ?_
    refine g_istore_n (pc' := 20) (ls1 := [some (.ref 75), some (.int a1), some (.int (0 : Int32)), some (.int (0 : Int32)), none, none, none, none, none, none]) hc rfl (zlt rfl) rfl rfl ?_
    refine zjn (G := (fun (g : Int32 × (Nat → Int32) × (Nat → Int32) × (Nat → Int32) × (Nat → Int32) × (Nat → Int32)) => match g with | (y11, y14, y15, y16, y17, y18) => ∀ z12 : Option Value, znl z12 = true → ∀ z13 : Option Value, znl z13 = true → pm_ev C_X12_look (d + 1) (pm_call M cost zext d) cost (false, false) 108 0 0 Q 88 [some (.ref 75), some (.int a1), some (.int y11), z12, z13, none, none, none, none, none] [] 0 0 (zS p q I [(75, some 0, fun _ => o1), (91, none, y15), (93, none, y18), (94, none, y14), (102, none, y16), (103, none, y17)] J []))) (zwp_bind h) ?_ (fun h => ?_)
    · rintro ⟨y11, y14, y15, y16, y17, y18⟩ h z12 hz12 z13 hz13
      refine g_iconst (pc' := 89) (v := (-1 : Int32)) hc rfl zki_m1 rfl ?_
      refine g_istore_n (pc' := 90) (ls1 := [some (.ref 75), some (.int a1), some (.int y11), some (.int (-1 : Int32)), z13, none, none, none, none, none]) hc rfl (zlt rfl) rfl rfl ?_
      refine g_iconst (pc' := 91) (v := (0 : Int32)) hc rfl zki_0 rfl ?_
      refine g_istore (pc' := 93) (ls1 := [some (.ref 75), some (.int a1), some (.int y11), some (.int (-1 : Int32)), some (.int (0 : Int32)), none, none, none, none, none]) hc rfl (zlt rfl) rfl rfl ?_
      refine g_iconst (pc' := 94) (v := (0 : Int32)) hc rfl zki_0 rfl ?_
      refine g_istore (pc' := 96) (ls1 := [some (.ref 75), some (.int a1), some (.int y11), some (.int (-1 : Int32)), some (.int (0 : Int32)), some (.int (0 : Int32)), none, none, none, none]) hc rfl (zlt rfl) rfl rfl ?_
      refine zjn (G := (fun (g : Int32 × Int32) => match g with | (y26, y27) => ∀ z28 : Option Value, znl z28 = true → ∀ z29 : Option Value, znl z29 = true → ∀ z30 : Option Value, znl z30 = true → ∀ z31 : Option Value, znl z31 = true → ∀ z32 : Option Value, znl z32 = true → pm_ev C_X12_look (d + 1) (pm_call M cost zext d) cost (false, false) 108 0 0 Q 221 [some (.ref 75), some (.int a1), some (.int y11), some (.int y26), some (.int y27), z28, z29, z30, z31, z32] [] 0 0 (zS p q I [(75, some 0, fun _ => o1), (91, none, y15), (93, none, y18), (94, none, y14), (102, none, y16), (103, none, y17)] J []))) (zwp_bind h) ?_ (fun h => ?_)
      · rintro ⟨y26, y27⟩ h z28 hz28 z29 hz29 z30 hz30 z31 hz31 z32 hz32
        refine g_iload_n (pc' := 222)  hc rfl rfl rfl ?_
        refine g_if_ne (pc' := 225) hc rfl rfl (fun hx => ?_) (fun hx => ?_)
        · replace h := zwp_f h hx
          refine g_iload (pc' := 231)  hc rfl rfl rfl ?_
          replace h := zws h
          exact g_ireturn hc rfl rfl rfl (fun _ => ⟨rfl, rfl⟩) h
        · replace h := zwp_t h hx
          refine g_iload_n (pc' := 226)  hc rfl rfl rfl ?_
          refine g_goto hc rfl ?_
          replace h := zws h
          exact g_ireturn hc rfl rfl rfl (fun _ => ⟨rfl, rfl⟩) h
      refine zitr_ev (G := (fun (g : Int32 × Int32 × Int32) => match g with | (x19, x20, x21) => ∀ z22 : Option Value, znl z22 = true → ∀ z23 : Option Value, znl z23 = true → ∀ z24 : Option Value, znl z24 = true → ∀ z25 : Option Value, znl z25 = true → pm_ev C_X12_look (d + 1) (pm_call M cost zext d) cost (false, false) 108 0 0 Q 96 [some (.ref 75), some (.int a1), some (.int y11), some (.int x19), some (.int x20), some (.int x21), z22, z23, z24, z25] [] 0 0 (zS p q I [(75, some 0, fun _ => o1), (91, none, y15), (93, none, y18), (94, none, y14), (102, none, y16), (103, none, y17)] J []))) ?_ zFU ((-1 : Int32), (0 : Int32), (0 : Int32)) h none rfl none rfl none rfl none rfl
      rintro ⟨x19, x20, x21⟩ h z22 hz22 z23 hz23 z24 hz24 z25 hz25
      refine g_iload (pc' := 98)  hc rfl rfl rfl ?_
      refine g_aload_n (pc' := 99)  hc rfl rfl rfl rfl ?_
      refine z_getI (pc' := 102) (v := (I 75 3)) hc rfl rfl rfl sh_75 rfl rfl rfl ?_
      refine g_icmp_ge (pc' := 105) hc rfl rfl (fun hx => ?_) (fun hx => ?_)
      · replace h := zwp_t h hx
        replace h := zwp_r h
        exact h (some (.int x21)) rfl z22 hz22 z23 hz23 z24 hz24 z25 hz25
      · replace h := zwp_f h hx
        refine g_iconst (pc' := 106) (v := (0 : Int32)) hc rfl zki_0 rfl ?_
        refine g_istore (pc' := 108) (ls1 := [some (.ref 75), some (.int a1), some (.int y11), some (.int x19), some (.int x20), some (.int x21), some (.int (0 : Int32)), z23, z24, z25]) hc rfl (zlt rfl) rfl rfl ?_
        refine g_iconst (pc' := 109) (v := (0 : Int32)) hc rfl zki_0 rfl ?_
        refine g_istore (pc' := 111) (ls1 := [some (.ref 75), some (.int a1), some (.int y11), some (.int x19), some (.int x20), some (.int x21), some (.int (0 : Int32)), some (.int (0 : Int32)), z24, z25]) hc rfl (zlt rfl) rfl rfl ?_
        refine zjn (G := (fun (y37 : Int32) => ∀ z38 : Option Value, znl z38 = true → ∀ z39 : Option Value, znl z39 = true → ∀ z40 : Option Value, znl z40 = true → pm_ev C_X12_look (d + 1) (pm_call M cost zext d) cost (false, false) 108 0 0 Q 198 [some (.ref 75), some (.int a1), some (.int y11), some (.int x19), some (.int x20), some (.int x21), some (.int y37), z38, z39, z40] [] 0 0 (zS p q I [(75, some 0, fun _ => o1), (91, none, y15), (93, none, y18), (94, none, y14), (102, none, y16), (103, none, y17)] J []))) (zwp_bind h) ?_ (fun h => ?_)
        · rintro y37 h z38 hz38 z39 hz39 z40 hz40
          refine g_iload (pc' := 200)  hc rfl rfl rfl ?_
          refine g_iload (pc' := 202)  hc rfl rfl rfl ?_
          refine g_icmp_gt (pc' := 205) hc rfl rfl (fun hx => ?_) (fun hx => ?_)
          · replace h := zwp_t h hx
            refine g_iload (pc' := 210)  hc rfl rfl rfl ?_
            refine g_istore_n (pc' := 211) (ls1 := [some (.ref 75), some (.int a1), some (.int y11), some (.int x21), some (.int x20), some (.int x21), some (.int y37), z38, z39, z40]) hc rfl (zlt rfl) rfl rfl ?_
            refine g_iload (pc' := 213)  hc rfl rfl rfl ?_
            refine g_istore (pc' := 215) (ls1 := [some (.ref 75), some (.int a1), some (.int y11), some (.int x21), some (.int y37), some (.int x21), some (.int y37), z38, z39, z40]) hc rfl (zlt rfl) rfl rfl ?_
            refine g_iinc (pc' := 218) (ls1 := [some (.ref 75), some (.int a1), some (.int y11), some (.int x21), some (.int y37), some (.int (x21 + (1 : Int32))), some (.int y37), z38, z39, z40]) hc rfl rfl zki_1 (zlt rfl) rfl rfl ?_
            refine g_goto hc rfl ?_
            replace h := zwp_l h
            exact h (some (.int y37)) rfl z38 hz38 z39 hz39 z40 hz40
          · replace h := zwp_f h hx
            refine g_goto hc rfl ?_
            refine g_iinc (pc' := 218) (ls1 := [some (.ref 75), some (.int a1), some (.int y11), some (.int x19), some (.int x20), some (.int (x21 + (1 : Int32))), some (.int y37), z38, z39, z40]) hc rfl rfl zki_1 (zlt rfl) rfl rfl ?_
            refine g_goto hc rfl ?_
            replace h := zwp_l h
            exact h (some (.int y37)) rfl z38 hz38 z39 hz39 z40 hz40
        refine zitr_ev (G := (fun (g : Int32 × Int32) => match g with | (x33, x34) => ∀ z35 : Option Value, znl z35 = true → ∀ z36 : Option Value, znl z36 = true → pm_ev C_X12_look (d + 1) (pm_call M cost zext d) cost (false, false) 108 0 0 Q 111 [some (.ref 75), some (.int a1), some (.int y11), some (.int x19), some (.int x20), some (.int x21), some (.int x33), some (.int x34), z35, z36] [] 0 0 (zS p q I [(75, some 0, fun _ => o1), (91, none, y15), (93, none, y18), (94, none, y14), (102, none, y16), (103, none, y17)] J []))) ?_ zFU ((0 : Int32), (0 : Int32)) h z24 hz24 z25 hz25
        rintro ⟨x33, x34⟩ h z35 hz35 z36 hz36
        refine g_iload (pc' := 113)  hc rfl rfl rfl ?_
        refine g_iload_n (pc' := 114)  hc rfl rfl rfl ?_
        refine g_icmp_ge (pc' := 117) hc rfl rfl (fun hx => ?_) (fun hx => ?_)
        · replace h := zwp_t h hx
          replace h := zwp_r h
          exact h (some (.int x34)) rfl z35 hz35 z36 hz36
        · replace h := zwp_f h hx
          refine g_iconst (pc' := 118) (v := (1 : Int32)) hc rfl zki_1 rfl ?_
          refine g_istore (pc' := 120) (ls1 := [some (.ref 75), some (.int a1), some (.int y11), some (.int x19), some (.int x20), some (.int x21), some (.int x33), some (.int x34), some (.int (1 : Int32)), z36]) hc rfl (zlt rfl) rfl rfl ?_
          refine g_iconst (pc' := 121) (v := (0 : Int32)) hc rfl zki_0 rfl ?_
          refine g_istore (pc' := 123) (ls1 := [some (.ref 75), some (.int a1), some (.int y11), some (.int x19), some (.int x20), some (.int x21), some (.int x33), some (.int x34), some (.int (1 : Int32)), some (.int (0 : Int32))]) hc rfl (zlt rfl) rfl rfl ?_
          refine zjn (G := (fun (y43 : Int32) => ∀ z44 : Option Value, znl z44 = true → pm_ev C_X12_look (d + 1) (pm_call M cost zext d) cost (false, false) 108 0 0 Q 177 [some (.ref 75), some (.int a1), some (.int y11), some (.int x19), some (.int x20), some (.int x21), some (.int x33), some (.int x34), some (.int y43), z44] [] 0 0 (zS p q I [(75, some 0, fun _ => o1), (91, none, y15), (93, none, y18), (94, none, y14), (102, none, y16), (103, none, y17)] J []))) (zwp_bind h) ?_ (fun h => ?_)
          · rintro y43 h z44 hz44
            refine g_iload (pc' := 179)  hc rfl rfl rfl ?_
            refine g_iload (pc' := 181)  hc rfl rfl rfl ?_
            refine zjn (G := (fun (j45 : Int32) => pm_ev C_X12_look (d + 1) (pm_call M cost zext d) cost (false, false) 108 0 0 Q 189 [some (.ref 75), some (.int a1), some (.int y11), some (.int x19), some (.int x20), some (.int x21), some (.int x33), some (.int x34), some (.int y43), z44] [.int j45, .int x33] 0 0 (zS p q I [(75, some 0, fun _ => o1), (91, none, y15), (93, none, y18), (94, none, y14), (102, none, y16), (103, none, y17)] J []))) (zwp_bind h) ?_ (fun h => ?_)
            · rintro j45 h
              refine g_iadd (pc' := 190)  hc rfl rfl ?_
              refine g_istore (pc' := 192) (ls1 := [some (.ref 75), some (.int a1), some (.int y11), some (.int x19), some (.int x20), some (.int x21), some (.int (x33 + j45)), some (.int x34), some (.int y43), z44]) hc rfl (zlt rfl) rfl rfl ?_
              refine g_iinc (pc' := 195) (ls1 := [some (.ref 75), some (.int a1), some (.int y11), some (.int x19), some (.int x20), some (.int x21), some (.int (x33 + j45)), some (.int (x34 + (1 : Int32))), some (.int y43), z44]) hc rfl rfl zki_1 (zlt rfl) rfl rfl ?_
              refine g_goto hc rfl ?_
              replace h := zwp_l h
              exact h (some (.int y43)) rfl z44 hz44
            refine g_if_eq (pc' := 184) hc rfl rfl (fun hx => ?_) (fun hx => ?_)
            · replace h := zwp_t h hx
              refine g_iconst (pc' := 189) (v := (0 : Int32)) hc rfl zki_0 rfl ?_
              replace h := zws h
              exact h
            · replace h := zwp_f h hx
              refine g_iconst (pc' := 185) (v := (1 : Int32)) hc rfl zki_1 rfl ?_
              refine g_goto hc rfl ?_
              replace h := zws h
              exact h
          refine zitr_ev (G := (fun (g : Int32 × Int32) => match g with | (x41, x42) => pm_ev C_X12_look (d + 1) (pm_call M cost zext d) cost (false, false) 108 0 0 Q 123 [some (.ref 75), some (.int a1), some (.int y11), some (.int x19), some (.int x20), some (.int x21), some (.int x33), some (.int x34), some (.int x41), some (.int x42)] [] 0 0 (zS p q I [(75, some 0, fun _ => o1), (91, none, y15), (93, none, y18), (94, none, y14), (102, none, y16), (103, none, y17)] J []))) ?_ zFU ((1 : Int32), (0 : Int32)) h
          rintro ⟨x41, x42⟩ h
          refine g_iload (pc' := 125)  hc rfl rfl rfl ?_
          refine g_iload (pc' := 127)  hc rfl rfl rfl ?_
          refine g_icmp_ge (pc' := 130) hc rfl rfl (fun hx => ?_) (fun hx => ?_)
          · replace h := zwp_t h hx
            replace h := zwp_r h
            exact h (some (.int x42)) rfl
          · replace h := zwp_f h hx
            refine g_iload (pc' := 132)  hc rfl rfl rfl ?_
            refine g_if_eq (pc' := 135) hc rfl rfl (fun hx => ?_) (fun hx => ?_)
            · replace h := zwp_t h hx
              replace h := zwp_r h
              exact h (some (.int x42)) rfl
            · replace h := zwp_f h hx
              refine g_aload_n (pc' := 136)  hc rfl rfl rfl rfl ?_
              refine z_getR (pc' := 139)  hc rfl rfl rfl sh_75 rfl rfl ?_
              refine g_bipush (pc' := 141) (v := (8 : Int32)) hc rfl zkb_8 rfl ?_
              refine g_iload (pc' := 143)  hc rfl rfl rfl ?_
              refine g_imul (pc' := 144)  hc rfl rfl ?_
              refine g_iload (pc' := 146)  hc rfl rfl rfl ?_
              refine g_iadd (pc' := 147)  hc rfl rfl ?_
              have hb := (zwp_bnd h).1
              replace h := (zwp_bnd h).2
              refine z_iaload (pc' := 148) (v := (y17 (((8 : Int32) * x34) + x21).toNatClampNeg)) hc rfl rfl sh_103 hb rfl rfl ?_
              refine g_aload_n (pc' := 149)  hc rfl rfl rfl rfl ?_
              refine z_getR (pc' := 152)  hc rfl rfl rfl sh_75 rfl rfl ?_
              refine g_bipush (pc' := 154) (v := (8 : Int32)) hc rfl zkb_8 rfl ?_
              refine g_iload (pc' := 156)  hc rfl rfl rfl ?_
              refine g_imul (pc' := 157)  hc rfl rfl ?_
              refine g_iload (pc' := 159)  hc rfl rfl rfl ?_
              refine g_iadd (pc' := 160)  hc rfl rfl ?_
              have hb := (zwp_bnd h).1
              replace h := (zwp_bnd h).2
              refine z_iaload (pc' := 161) (v := (y17 (((8 : Int32) * x42) + x21).toNatClampNeg)) hc rfl rfl sh_103 hb rfl rfl ?_
              refine zjn (G := (fun (j46 : Int32) => pm_ev C_X12_look (d + 1) (pm_call M cost zext d) cost (false, false) 108 0 0 Q 169 [some (.ref 75), some (.int a1), some (.int y11), some (.int x19), some (.int x20), some (.int x21), some (.int x33), some (.int x34), some (.int x41), some (.int x42)] [.int j46] 0 0 (zS p q I [(75, some 0, fun _ => o1), (91, none, y15), (93, none, y18), (94, none, y14), (102, none, y16), (103, none, y17)] J []))) (zwp_bind h) ?_ (fun h => ?_)
              · rintro j46 h
                refine g_istore (pc' := 171) (ls1 := [some (.ref 75), some (.int a1), some (.int y11), some (.int x19), some (.int x20), some (.int x21), some (.int x33), some (.int x34), some (.int j46), some (.int x42)]) hc rfl (zlt rfl) rfl rfl ?_
                refine g_iinc (pc' := 174) (ls1 := [some (.ref 75), some (.int a1), some (.int y11), some (.int x19), some (.int x20), some (.int x21), some (.int x33), some (.int x34), some (.int j46), some (.int (x42 + (1 : Int32)))]) hc rfl rfl zki_1 (zlt rfl) rfl rfl ?_
                refine g_goto hc rfl ?_
                replace h := zwp_l h
                exact h
              refine g_icmp_eq (pc' := 164) hc rfl rfl (fun hx => ?_) (fun hx => ?_)
              · replace h := zwp_t h hx
                refine g_iconst (pc' := 169) (v := (0 : Int32)) hc rfl zki_0 rfl ?_
                replace h := zws h
                exact h
              · replace h := zwp_f h hx
                refine g_iconst (pc' := 165) (v := (1 : Int32)) hc rfl zki_1 rfl ?_
                refine g_goto hc rfl ?_
                replace h := zws h
                exact h
    refine zitr_ev (G := (fun (g : Int32 × Int32 × (Nat → Int32) × (Nat → Int32) × (Nat → Int32) × (Nat → Int32) × (Nat → Int32)) => match g with | (x3, x4, x6, x7, x8, x9, x10) => ∀ z5 : Option Value, znl z5 = true → pm_ev C_X12_look (d + 1) (pm_call M cost zext d) cost (false, false) 108 0 0 Q 20 [some (.ref 75), some (.int a1), some (.int x3), some (.int x4), z5, none, none, none, none, none] [] 0 0 (zS p q I [(75, some 0, fun _ => o1), (91, none, x7), (93, none, x10), (94, none, x6), (102, none, x8), (103, none, x9)] J []))) ?_ zFU ((0 : Int32), (0 : Int32), (I 94), (I 91), (I 102), (I 103), (I 93)) h none rfl
    rintro ⟨x3, x4, x6, x7, x8, x9, x10⟩ h z5 hz5
    refine g_iload_n (pc' := 21)  hc rfl rfl rfl ?_
    refine g_bipush (pc' := 23) (v := (10 : Int32)) hc rfl zkb_10 rfl ?_
    refine g_aload_n (pc' := 24)  hc rfl rfl rfl rfl ?_
    refine z_getI (pc' := 27) (v := (I 75 3)) hc rfl rfl rfl sh_75 rfl rfl rfl ?_
    refine g_imul (pc' := 28)  hc rfl rfl ?_
    refine g_icmp_ge (pc' := 31) hc rfl rfl (fun hx => ?_) (fun hx => ?_)
    · replace h := zwp_t h hx
      replace h := zwp_r h
      exact h (some (.int x4)) rfl z5 hz5
    · replace h := zwp_f h hx
      refine g_aload_n (pc' := 32)  hc rfl rfl rfl rfl ?_
      refine g_iload_n (pc' := 33)  hc rfl rfl rfl ?_
      refine z_virt (as := [.int x4]) (a := 75) (r := []) hc rfl rfl rfl rfl sh_75 rfl zco_254 rfl rfl rfl ?_
      refine ok_X12_isGuess_75 (zdp hd rfl) (zwp_mono (zwp_bind h) ?_)
      rintro ⟨r51, o47, o48, o49, o50⟩ h
      refine z_po (pc' := 36) (st' := [.int r51]) (v := (some (.int r51))) (L' := [(75, some 0, fun _ => o1), (91, none, o48), (93, none, o50), (94, none, o47), (102, none, o49), (103, none, x9)]) (K' := []) zco_254 rfl rfl rfl rfl rfl rfl rfl rfl ?_
      refine g_if_ne (pc' := 39) hc rfl rfl (fun hx => ?_) (fun hx => ?_)
      · replace h := zwp_f h hx
        refine g_iconst (pc' := 43) (v := (0 : Int32)) hc rfl zki_0 rfl ?_
        refine g_istore (pc' := 45) (ls1 := [some (.ref 75), some (.int a1), some (.int x3), some (.int x4), some (.int (0 : Int32)), none, none, none, none, none]) hc rfl (zlt rfl) rfl rfl ?_
        refine zjn (G := (fun (y55 : (Nat → Int32)) => ∀ z54 : Option Value, znl z54 = true → pm_ev C_X12_look (d + 1) (pm_call M cost zext d) cost (false, false) 108 0 0 Q 79 [some (.ref 75), some (.int a1), some (.int x3), some (.int x4), z54, none, none, none, none, none] [] 0 0 (zS p q I [(75, some 0, fun _ => o1), (91, none, o48), (93, none, o50), (94, none, o47), (102, none, o49), (103, none, y55)] J []))) (zwp_bind h) ?_ (fun h => ?_)
        · rintro y55 h z54 hz54
          refine g_iinc (pc' := 82) (ls1 := [some (.ref 75), some (.int a1), some (.int (x3 + (1 : Int32))), some (.int x4), z54, none, none, none, none, none]) hc rfl rfl zki_1 (zlt rfl) rfl rfl ?_
          refine g_iinc (pc' := 85) (ls1 := [some (.ref 75), some (.int a1), some (.int (x3 + (1 : Int32))), some (.int (x4 + (1 : Int32))), z54, none, none, none, none, none]) hc rfl rfl zki_1 (zlt rfl) rfl rfl ?_
          refine g_goto hc rfl ?_
          replace h := zwp_l h
          exact h z54 hz54
        refine zitr_ev (G := (fun (g : Int32 × (Nat → Int32)) => match g with | (x52, x53) => pm_ev C_X12_look (d + 1) (pm_call M cost zext d) cost (false, false) 108 0 0 Q 45 [some (.ref 75), some (.int a1), some (.int x3), some (.int x4), some (.int x52), none, none, none, none, none] [] 0 0 (zS p q I [(75, some 0, fun _ => o1), (91, none, o48), (93, none, o50), (94, none, o47), (102, none, o49), (103, none, x53)] J []))) ?_ zFU ((0 : Int32), x9) h
        rintro ⟨x52, x53⟩ h
        refine g_iload (pc' := 47)  hc rfl rfl rfl ?_
        refine g_aload_n (pc' := 48)  hc rfl rfl rfl rfl ?_
        refine z_getI (pc' := 51) (v := (I 75 3)) hc rfl rfl rfl sh_75 rfl rfl rfl ?_
        refine g_icmp_ge (pc' := 54) hc rfl rfl (fun hx => ?_) (fun hx => ?_)
        · replace h := zwp_t h hx
          replace h := zwp_r h
          exact h (some (.int x52)) rfl
        · replace h := zwp_f h hx
          refine g_aload_n (pc' := 55)  hc rfl rfl rfl rfl ?_
          refine z_getR (pc' := 58)  hc rfl rfl rfl sh_75 rfl rfl ?_
          refine g_bipush (pc' := 60) (v := (8 : Int32)) hc rfl zkb_8 rfl ?_
          refine g_iload_n (pc' := 61)  hc rfl rfl rfl ?_
          refine g_imul (pc' := 62)  hc rfl rfl ?_
          refine g_iload (pc' := 64)  hc rfl rfl rfl ?_
          refine g_iadd (pc' := 65)  hc rfl rfl ?_
          refine g_aload_n (pc' := 66)  hc rfl rfl rfl rfl ?_
          refine z_getR (pc' := 69)  hc rfl rfl rfl sh_75 rfl rfl ?_
          refine g_iload (pc' := 71)  hc rfl rfl rfl ?_
          have hb := (zwp_bnd h).1
          replace h := (zwp_bnd h).2
          refine z_iaload (pc' := 72) (v := (o49 x52.toNatClampNeg)) hc rfl rfl sh_102 hb rfl rfl ?_
          have hb := (zwp_bnd h).1
          replace h := (zwp_bnd h).2
          refine z_iastore (pc' := 73) (g := x53) (L' := [(75, some 0, fun _ => o1), (91, none, o48), (93, none, o50), (94, none, o47), (102, none, o49), (103, none, (upd x53 (((8 : Int32) * x3) + x52).toNatClampNeg (o49 x52.toNatClampNeg)))]) hc rfl rfl sh_103 hb rfl rfl rfl rfl ?_
          refine g_iinc (pc' := 76) (ls1 := [some (.ref 75), some (.int a1), some (.int x3), some (.int x4), some (.int (x52 + (1 : Int32))), none, none, none, none, none]) hc rfl rfl zki_1 (zlt rfl) rfl rfl ?_
          refine g_goto hc rfl ?_
          replace h := zwp_l h
          exact h
      · replace h := zwp_t h hx
        refine g_goto hc rfl ?_
        refine g_iinc (pc' := 85) (ls1 := [some (.ref 75), some (.int a1), some (.int x3), some (.int (x4 + (1 : Int32))), z5, none, none, none, none, none]) hc rfl rfl zki_1 (zlt rfl) rfl rfl ?_
        refine g_goto hc rfl ?_
        replace h := zwp_l h
        exact h z5 hz5
  · replace h := zwp_t h hx
    refine g_iconst (pc' := 15) (v := (0 : Int32)) hc rfl zki_0 rfl ?_
    replace h := zws h
    exact g_ireturn hc rfl rfl rfl (fun _ => ⟨rfl, rfl⟩) h
set_option maxRecDepth 4000 in
theorem ok_X12_clouds_75 {p q : Nat} {I : pI} {J : pJ} {a1 : Int32} {a2 : Int32} {a3 : Int32} {a4 : Int32} {Q : pQ} {d : Nat} (hd : 7 ≤ d) (h : zwp (f_X12_clouds a1 a2 a3 a4 (I 80) (I 75 6) (I 75 53) (I 75 3) (I 75 7) (I 75 8) (I 79) (I 75 5) (I 94) (I 91) (I 75 2) (I 75 0) (I 93) (I 76) (I 77) (I 75 1)) (fun w => match w with | (r, o0, o1, o2, o3, o4) => Q (.inl (some (.int r))) (zS p q I [(75, some 0, fun _ => o3), (75, some 53, fun _ => o0), (91, none, o2), (93, none, o4), (94, none, o1)] J []))) : pm_call M cost zext d 257 [.ref 75, .int a1, .int a2, .int a3, .int a4] (pm_st 108 (shp p q) I J) Q := by
  obtain ⟨d, rfl⟩ := zd1 hd rfl
  have hc := pm_call_m (M := M) (cost := cost) zext_m d
  refine z_in (L := [(75, some 0, fun _ => (I 75 0)), (75, some 53, fun _ => (I 75 53)), (91, none, (I 91)), (93, none, (I 93)), (94, none, (I 94))]) (K := []) (ls := [some (.ref 75), some (.int a1), some (.int a2), some (.int a3), some (.int a4), none, none, none, none]) zmt_257 zco_257 rfl rfl (zid_s (zid_s (zid_a (zid_a (zid_a zid_n))))) zid_n ?_
  delta f_X12_clouds at h
  refine g_aload_n (pc' := 1)  hc rfl rfl rfl rfl ?_
  refine g_iconst (pc' := 2) (v := (0 : Int32)) hc rfl zki_0 rfl ?_
  refine z_putI (pc' := 5) (L' := [(75, some 0, fun _ => (0 : Int32)), (75, some 53, fun _ => (I 75 53)), (91, none, (I 91)), (93, none, (I 93)), (94, none, (I 94))]) hc rfl rfl rfl sh_75 rfl zft_12_0 rfl (fun h => Bool.noConfusion h) rfl rfl rfl ?_
  refine g_aload_n (pc' := 6)  hc rfl rfl rfl rfl ?_
  refine g_iload_n (pc' := 7)  hc rfl rfl rfl ?_
  refine z_virt (as := [.int a1]) (a := 75) (r := []) hc rfl rfl rfl rfl sh_75 rfl zco_216 rfl rfl rfl ?_
  refine ok_X12_isFigure_75 (zdp hd rfl) (zwp_mono (zwp_bind h) ?_)
  rintro ⟨r2, o1⟩ h
  refine z_po (pc' := 10) (st' := [.int r2]) (v := (some (.int r2))) (L' := [(75, some 0, fun _ => o1), (75, some 53, fun _ => (I 75 53)), (91, none, (I 91)), (93, none, (I 93)), (94, none, (I 94))]) (K' := []) zco_216 rfl rfl rfl rfl rfl rfl rfl rfl ?_
  refine g_if_eq (pc' := 13) hc rfl rfl (fun hx => ?_) (fun hx => ?_)
  · replace h := zwp_t h hx
    refine g_iconst (pc' := 55) (v := (0 : Int32)) hc rfl zki_0 rfl ?_
    replace h := zws h
    exact g_ireturn hc rfl rfl rfl (fun _ => ⟨rfl, rfl⟩) h
  · replace h := zwp_f h hx
    refine g_aload_n (pc' := 14)  hc rfl rfl rfl rfl ?_
    refine g_iload_n (pc' := 15)  hc rfl rfl rfl ?_
    refine z_virt (as := [.int a2]) (a := 75) (r := []) hc rfl rfl rfl rfl sh_75 rfl zco_217 rfl rfl rfl ?_
    refine ok_X12_isCell_75 (zdp hd rfl) (zwp_mono (zwp_bind h) ?_)
    rintro ⟨r4, o3⟩ h
    refine z_po (pc' := 18) (st' := [.int r4]) (v := (some (.int r4))) (L' := [(75, some 0, fun _ => o3), (75, some 53, fun _ => (I 75 53)), (91, none, (I 91)), (93, none, (I 93)), (94, none, (I 94))]) (K' := []) zco_217 rfl rfl rfl rfl rfl rfl rfl rfl ?_
    refine g_if_eq (pc' := 21) hc rfl rfl (fun hx => ?_) (fun hx => ?_)
    · replace h := zwp_t h hx
      refine g_iconst (pc' := 55) (v := (0 : Int32)) hc rfl zki_0 rfl ?_
      replace h := zws h
      exact g_ireturn hc rfl rfl rfl (fun _ => ⟨rfl, rfl⟩) h
    · replace h := zwp_f h hx
      refine g_aload_n (pc' := 22)  hc rfl rfl rfl rfl ?_
      refine g_iload_n (pc' := 23)  hc rfl rfl rfl ?_
      refine g_iconst (pc' := 24) (v := (1 : Int32)) hc rfl zki_1 rfl ?_
      refine g_iconst (pc' := 25) (v := (5 : Int32)) hc rfl zki_5 rfl ?_
      refine z_stat (as := [.int a3, .int (1 : Int32), .int (5 : Int32)]) (r := [.ref 75]) hc rfl rfl rfl rfl zco_154 rfl rfl rfl ?_
      refine ok_X12_within (zdp hd rfl) (zwp_mono (zwp_bind h) ?_)
      rintro r5 h
      refine z_po (pc' := 28) (st' := [.int r5, .ref 75]) (v := (some (.int r5))) (L' := [(75, some 0, fun _ => o3), (75, some 53, fun _ => (I 75 53)), (91, none, (I 91)), (93, none, (I 93)), (94, none, (I 94))]) (K' := []) zco_154 rfl rfl rfl rfl rfl rfl rfl rfl ?_
      refine zjn (G := (fun (j6 : Int32) => pm_ev C_X12_clouds (d + 1) (pm_call M cost zext d) cost (false, false) 108 0 0 Q 47 [some (.ref 75), some (.int a1), some (.int a2), some (.int a3), some (.int a4), none, none, none, none] [.int j6, .ref 75] 0 0 (zS p q I [(75, some 0, fun _ => o3), (75, some 53, fun _ => (I 75 53)), (91, none, (I 91)), (93, none, (I 93)), (94, none, (I 94))] J []))) (zwp_bind h) ?_ (fun h => ?_)
      · rintro j6 h
        refine g_iconst (pc' := 48) (v := (2 : Int32)) hc rfl zki_2 rfl ?_
        refine z_virt (as := [.int j6, .int (2 : Int32)]) (a := 75) (r := []) hc rfl rfl rfl rfl sh_75 rfl zco_153 rfl rfl rfl ?_
        refine ok_X12_right_75 (zdp hd rfl) (zwp_mono (zwp_bind h) ?_)
        rintro ⟨r8, o7⟩ h
        refine z_po (pc' := 51) (st' := [.int r8]) (v := (some (.int r8))) (L' := [(75, some 0, fun _ => o7), (75, some 53, fun _ => (I 75 53)), (91, none, (I 91)), (93, none, (I 93)), (94, none, (I 94))]) (K' := []) zco_153 rfl rfl rfl rfl rfl rfl rfl rfl ?_
        refine g_if_ne (pc' := 54) hc rfl rfl (fun hx => ?_) (fun hx => ?_)
        · replace h := zwp_f h hx
          refine g_iconst (pc' := 57) (v := (0 : Int32)) hc rfl zki_0 rfl ?_
          refine g_istore (pc' := 59) (ls1 := [some (.ref 75), some (.int a1), some (.int a2), some (.int a3), some (.int a4), some (.int (0 : Int32)), none, none, none]) hc rfl (zlt rfl) rfl rfl ?_
          refine g_iconst (pc' := 60) (v := (0 : Int32)) hc rfl zki_0 rfl ?_
          refine g_istore (pc' := 62) (ls1 := [some (.ref 75), some (.int a1), some (.int a2), some (.int a3), some (.int a4), some (.int (0 : Int32)), some (.int (0 : Int32)), none, none]) hc rfl (zlt rfl) rfl rfl ?_
          refine zjn (G := (fun (g : Int32 × Int32 × (Nat → Int32) × (Nat → Int32) × (Nat → Int32)) => match g with | (y17, y21, y22, y23, y24) => ∀ z18 : Option Value, znl z18 = true → ∀ z19 : Option Value, znl z19 = true → ∀ z20 : Option Value, znl z20 = true → pm_ev C_X12_clouds (d + 1) (pm_call M cost zext d) cost (false, false) 108 0 0 Q 162 [some (.ref 75), some (.int a1), some (.int a2), some (.int a3), some (.int a4), some (.int y17), z18, z19, z20] [] 0 0 (zS p q I [(75, some 0, fun _ => o7), (75, some 53, fun _ => y21), (91, none, y23), (93, none, y24), (94, none, y22)] J []))) (zwp_bind h) ?_ (fun h => ?_)
          · rintro ⟨y17, y21, y22, y23, y24⟩ h z18 hz18 z19 hz19 z20 hz20
            refine g_aload_n (pc' := 163)  hc rfl rfl rfl rfl ?_
            refine g_iconst (pc' := 164) (v := (-1 : Int32)) hc rfl zki_m1 rfl ?_
            refine z_putI (pc' := 167) (L' := [(75, some 0, fun _ => o7), (75, some 53, fun _ => (-1 : Int32)), (91, none, y23), (93, none, y24), (94, none, y22)]) hc rfl rfl rfl sh_75 rfl zft_12_53 rfl (fun h => Bool.noConfusion h) rfl rfl rfl ?_
            refine g_iload (pc' := 169)  hc rfl rfl rfl ?_
            replace h := zws h
            exact g_ireturn hc rfl rfl rfl (fun _ => ⟨rfl, rfl⟩) h
          refine zitr_ev (G := (fun (g : Int32 × Int32 × Int32 × (Nat → Int32) × (Nat → Int32) × (Nat → Int32)) => match g with | (x9, x10, x13, x14, x15, x16) => ∀ z11 : Option Value, znl z11 = true → ∀ z12 : Option Value, znl z12 = true → pm_ev C_X12_clouds (d + 1) (pm_call M cost zext d) cost (false, false) 108 0 0 Q 62 [some (.ref 75), some (.int a1), some (.int a2), some (.int a3), some (.int a4), some (.int x9), some (.int x10), z11, z12] [] 0 0 (zS p q I [(75, some 0, fun _ => o7), (75, some 53, fun _ => x13), (91, none, x15), (93, none, x16), (94, none, x14)] J []))) ?_ zFU ((0 : Int32), (0 : Int32), (I 75 53), (I 94), (I 91), (I 93)) h none rfl none rfl
          rintro ⟨x9, x10, x13, x14, x15, x16⟩ h z11 hz11 z12 hz12
          refine g_iload (pc' := 64)  hc rfl rfl rfl ?_
          refine g_iconst (pc' := 65) (v := (1 : Int32)) hc rfl zki_1 rfl ?_
          refine g_iload_n (pc' := 66)  hc rfl rfl rfl ?_
          refine g_ishl (pc' := 67)  hc rfl rfl ?_
          refine g_icmp_ge (pc' := 70) hc rfl rfl (fun hx => ?_) (fun hx => ?_)
          · replace h := zwp_t h hx
            replace h := zwp_r h
            exact h (some (.int x10)) rfl z11 hz11 z12 hz12
          · replace h := zwp_f h hx
            refine g_iconst (pc' := 71) (v := (1 : Int32)) hc rfl zki_1 rfl ?_
            refine g_istore (pc' := 73) (ls1 := [some (.ref 75), some (.int a1), some (.int a2), some (.int a3), some (.int a4), some (.int x9), some (.int x10), some (.int (1 : Int32)), z12]) hc rfl (zlt rfl) rfl rfl ?_
            refine g_aload_n (pc' := 74)  hc rfl rfl rfl rfl ?_
            refine z_virt (as := []) (a := 75) (r := []) hc rfl rfl rfl rfl sh_75 rfl zco_196 rfl rfl rfl ?_
            refine ok_X12_tries_75 (zdp hd rfl) (zwp_mono (zwp_bind h) ?_)
            rintro o25 h
            refine z_po (pc' := 77) (st' := []) (v := none) (L' := [(75, some 0, fun _ => o7), (75, some 53, fun _ => x13), (91, none, o25), (93, none, x16), (94, none, x14)]) (K' := []) zco_196 rfl rfl rfl rfl rfl rfl rfl rfl ?_
            refine g_iconst (pc' := 78) (v := (0 : Int32)) hc rfl zki_0 rfl ?_
            refine g_istore (pc' := 80) (ls1 := [some (.ref 75), some (.int a1), some (.int a2), some (.int a3), some (.int a4), some (.int x9), some (.int x10), some (.int (1 : Int32)), some (.int (0 : Int32))]) hc rfl (zlt rfl) rfl rfl ?_
            refine zjn (G := (fun (g : Int32 × Int32 × (Nat → Int32) × (Nat → Int32) × (Nat → Int32)) => match g with | (y32, y34, y35, y36, y37) => ∀ z33 : Option Value, znl z33 = true → pm_ev C_X12_clouds (d + 1) (pm_call M cost zext d) cost (false, false) 108 0 0 Q 132 [some (.ref 75), some (.int a1), some (.int a2), some (.int a3), some (.int a4), some (.int x9), some (.int x10), some (.int y32), z33] [] 0 0 (zS p q I [(75, some 0, fun _ => o7), (75, some 53, fun _ => y34), (91, none, y36), (93, none, y37), (94, none, y35)] J []))) (zwp_bind h) ?_ (fun h => ?_)
            · rintro ⟨y32, y34, y35, y36, y37⟩ h z33 hz33
              refine g_iload (pc' := 134)  hc rfl rfl rfl ?_
              refine g_aload_n (pc' := 135)  hc rfl rfl rfl rfl ?_
              refine z_getR (pc' := 138)  hc rfl rfl rfl sh_75 rfl rfl ?_
              refine g_bipush (pc' := 140) (v := (71 : Int32)) hc rfl zkb_71 rfl ?_
              refine g_iload_n (pc' := 141)  hc rfl rfl rfl ?_
              refine g_iadd (pc' := 142)  hc rfl rfl ?_
              have hb := (zwp_bnd h).1
              replace h := (zwp_bnd h).2
              refine z_iaload (pc' := 143) (v := (y36 ((71 : Int32) + a1).toNatClampNeg)) hc rfl rfl sh_91 hb rfl rfl ?_
              refine g_iload_n (pc' := 144)  hc rfl rfl rfl ?_
              refine zjn (G := (fun (j38 : Int32) => pm_ev C_X12_clouds (d + 1) (pm_call M cost zext d) cost (false, false) 108 0 0 Q 153 [some (.ref 75), some (.int a1), some (.int a2), some (.int a3), some (.int a4), some (.int x9), some (.int x10), some (.int y32), z33] [.int j38, .int x9] 0 0 (zS p q I [(75, some 0, fun _ => o7), (75, some 53, fun _ => y34), (91, none, y36), (93, none, y37), (94, none, y35)] J []))) (zwp_bind h) ?_ (fun h => ?_)
              · rintro j38 h
                refine g_iadd (pc' := 154)  hc rfl rfl ?_
                refine g_istore (pc' := 156) (ls1 := [some (.ref 75), some (.int a1), some (.int a2), some (.int a3), some (.int a4), some (.int (x9 + j38)), some (.int x10), some (.int y32), z33]) hc rfl (zlt rfl) rfl rfl ?_
                refine g_iinc (pc' := 159) (ls1 := [some (.ref 75), some (.int a1), some (.int a2), some (.int a3), some (.int a4), some (.int (x9 + j38)), some (.int (x10 + (1 : Int32))), some (.int y32), z33]) hc rfl rfl zki_1 (zlt rfl) rfl rfl ?_
                refine g_goto hc rfl ?_
                replace h := zwp_l h
                exact h (some (.int y32)) rfl z33 hz33
              refine g_icmp_ne (pc' := 147) hc rfl rfl (fun hx => ?_) (fun hx => ?_)
              · replace h := zwp_f h hx
                refine g_iconst (pc' := 153) (v := (0 : Int32)) hc rfl zki_0 rfl ?_
                replace h := zws h
                exact h
              · replace h := zwp_t h hx
                refine g_iload (pc' := 149)  hc rfl rfl rfl ?_
                refine g_goto hc rfl ?_
                replace h := zws h
                exact h
            refine zitr_ev (G := (fun (g : Int32 × Int32 × Int32 × (Nat → Int32) × (Nat → Int32) × (Nat → Int32)) => match g with | (x26, x27, x28, x29, x30, x31) => pm_ev C_X12_clouds (d + 1) (pm_call M cost zext d) cost (false, false) 108 0 0 Q 80 [some (.ref 75), some (.int a1), some (.int a2), some (.int a3), some (.int a4), some (.int x9), some (.int x10), some (.int x26), some (.int x27)] [] 0 0 (zS p q I [(75, some 0, fun _ => o7), (75, some 53, fun _ => x28), (91, none, x30), (93, none, x31), (94, none, x29)] J []))) ?_ zFU ((1 : Int32), (0 : Int32), x13, x14, o25, x16) h
            rintro ⟨x26, x27, x28, x29, x30, x31⟩ h
            refine g_iload (pc' := 82)  hc rfl rfl rfl ?_
            refine g_iload_n (pc' := 83)  hc rfl rfl rfl ?_
            refine g_icmp_ge (pc' := 86) hc rfl rfl (fun hx => ?_) (fun hx => ?_)
            · replace h := zwp_t h hx
              replace h := zwp_r h
              exact h (some (.int x27)) rfl
            · replace h := zwp_f h hx
              refine g_aload_n (pc' := 87)  hc rfl rfl rfl rfl ?_
              refine g_iload (pc' := 89)  hc rfl rfl rfl ?_
              refine g_iload (pc' := 91)  hc rfl rfl rfl ?_
              refine g_ishr (pc' := 92)  hc rfl rfl ?_
              refine g_iconst (pc' := 93) (v := (1 : Int32)) hc rfl zki_1 rfl ?_
              refine g_iand (pc' := 94)  hc rfl rfl ?_
              refine z_putI (pc' := 97) (L' := [(75, some 0, fun _ => o7), (75, some 53, fun _ => ((x10 >>> (x27 &&& 31)) &&& (1 : Int32))), (91, none, x30), (93, none, x31), (94, none, x29)]) hc rfl rfl rfl sh_75 rfl zft_12_53 rfl (fun h => Bool.noConfusion h) rfl rfl rfl ?_
              refine g_iload (pc' := 99)  hc rfl rfl rfl ?_
              refine g_aload_n (pc' := 100)  hc rfl rfl rfl rfl ?_
              refine z_getI (pc' := 103) (v := ((x10 >>> (x27 &&& 31)) &&& (1 : Int32))) hc rfl rfl rfl sh_75 rfl rfl rfl ?_
              refine g_iconst (pc' := 104) (v := (1 : Int32)) hc rfl zki_1 rfl ?_
              refine zjn (G := (fun (j39 : Int32) => pm_ev C_X12_clouds (d + 1) (pm_call M cost zext d) cost (false, false) 108 0 0 Q 117 [some (.ref 75), some (.int a1), some (.int a2), some (.int a3), some (.int a4), some (.int x9), some (.int x10), some (.int x26), some (.int x27)] [.int j39, .int x26] 0 0 (zS p q I [(75, some 0, fun _ => o7), (75, some 53, fun _ => ((x10 >>> (x27 &&& 31)) &&& (1 : Int32))), (91, none, x30), (93, none, x31), (94, none, x29)] J []))) (zwp_bind h) ?_ (fun h => ?_)
              · rintro j39 h
                refine g_imul (pc' := 118)  hc rfl rfl ?_
                refine g_istore (pc' := 120) (ls1 := [some (.ref 75), some (.int a1), some (.int a2), some (.int a3), some (.int a4), some (.int x9), some (.int x10), some (.int (x26 * j39)), some (.int x27)]) hc rfl (zlt rfl) rfl rfl ?_
                refine g_aload_n (pc' := 121)  hc rfl rfl rfl rfl ?_
                refine g_bipush (pc' := 123) (v := (70 : Int32)) hc rfl zkb_70 rfl ?_
                refine z_virt (as := [.int (70 : Int32)]) (a := 75) (r := []) hc rfl rfl rfl rfl sh_75 rfl zco_209 rfl rfl rfl ?_
                refine ok_X12_hourGoes_75 (zdp hd rfl) (zwp_mono (zwp_bind h) ?_)
                rintro ⟨o40, o41, o42⟩ h
                refine z_po (pc' := 126) (st' := []) (v := none) (L' := [(75, some 0, fun _ => o7), (75, some 53, fun _ => ((x10 >>> (x27 &&& 31)) &&& (1 : Int32))), (91, none, o41), (93, none, o42), (94, none, o40)]) (K' := []) zco_209 rfl rfl rfl rfl rfl rfl rfl rfl ?_
                refine g_iinc (pc' := 129) (ls1 := [some (.ref 75), some (.int a1), some (.int a2), some (.int a3), some (.int a4), some (.int x9), some (.int x10), some (.int (x26 * j39)), some (.int (x27 + (1 : Int32)))]) hc rfl rfl zki_1 (zlt rfl) rfl rfl ?_
                refine g_goto hc rfl ?_
                replace h := zwp_l h
                exact h
              refine g_icmp_ne (pc' := 107) hc rfl rfl (fun hx => ?_) (fun hx => ?_)
              · replace h := zwp_f h hx
                refine g_bipush (pc' := 114) (v := (10 : Int32)) hc rfl zkb_10 rfl ?_
                refine g_iload (pc' := 116)  hc rfl rfl rfl ?_
                refine g_isub (pc' := 117)  hc rfl rfl ?_
                replace h := zws h
                exact h
              · replace h := zwp_t h hx
                refine g_iload (pc' := 109)  hc rfl rfl rfl ?_
                refine g_goto hc rfl ?_
                replace h := zws h
                exact h
        · replace h := zwp_t h hx
          refine g_iconst (pc' := 55) (v := (0 : Int32)) hc rfl zki_0 rfl ?_
          replace h := zws h
          exact g_ireturn hc rfl rfl rfl (fun _ => ⟨rfl, rfl⟩) h
      refine g_if_eq (pc' := 31) hc rfl rfl (fun hx => ?_) (fun hx => ?_)
      · replace h := zwp_t h hx
        refine g_iconst (pc' := 47) (v := (0 : Int32)) hc rfl zki_0 rfl ?_
        replace h := zws h
        exact h
      · replace h := zwp_f h hx
        refine g_iload (pc' := 33)  hc rfl rfl rfl ?_
        refine g_iconst (pc' := 34) (v := (0 : Int32)) hc rfl zki_0 rfl ?_
        refine g_bipush (pc' := 36) (v := (10 : Int32)) hc rfl zkb_10 rfl ?_
        refine z_stat (as := [.int a4, .int (0 : Int32), .int (10 : Int32)]) (r := [.ref 75]) hc rfl rfl rfl rfl zco_154 rfl rfl rfl ?_
        refine ok_X12_within (zdp hd rfl) (zwp_mono (zwp_bind h) ?_)
        rintro r43 h
        refine z_po (pc' := 39) (st' := [.int r43, .ref 75]) (v := (some (.int r43))) (L' := [(75, some 0, fun _ => o3), (75, some 53, fun _ => (I 75 53)), (91, none, (I 91)), (93, none, (I 93)), (94, none, (I 94))]) (K' := []) zco_154 rfl rfl rfl rfl rfl rfl rfl rfl ?_
        refine g_if_eq (pc' := 42) hc rfl rfl (fun hx => ?_) (fun hx => ?_)
        · replace h := zwp_t h hx
          refine g_iconst (pc' := 47) (v := (0 : Int32)) hc rfl zki_0 rfl ?_
          replace h := zws h
          exact h
        · replace h := zwp_f h hx
          refine g_iconst (pc' := 43) (v := (1 : Int32)) hc rfl zki_1 rfl ?_
          refine g_goto hc rfl ?_
          replace h := zws h
          exact h
set_option maxRecDepth 4000 in
theorem ok_X12_gains_75 {p q : Nat} {I : pI} {J : pJ} {a1 : Int32} {a2 : Int32} {a3 : Int32} {a4 : Int32} {Q : pQ} {d : Nat} (hd : 7 ≤ d) (h : zwp (f_X12_gains a1 a2 a3 a4 (I 80) (I 75 6) (I 75 53) (I 75 3) (I 75 7) (I 75 8) (I 79) (I 75 5) (I 94) (I 91) (I 75 2) (I 93) (I 76) (I 77) (I 75 1)) (fun w => match w with | (r, o0, o1, o2) => Q (.inl (some (.int r))) (zS p q I [(91, none, o1), (93, none, o2), (94, none, o0)] J []))) : pm_call M cost zext d 258 [.ref 75, .int a1, .int a2, .int a3, .int a4] (pm_st 108 (shp p q) I J) Q := by
  obtain ⟨d, rfl⟩ := zd1 hd rfl
  have hc := pm_call_m (M := M) (cost := cost) zext_m d
  refine z_in (L := [(91, none, (I 91)), (93, none, (I 93)), (94, none, (I 94))]) (K := []) (ls := [some (.ref 75), some (.int a1), some (.int a2), some (.int a3), some (.int a4), none, none]) zmt_258 zco_258 rfl rfl (zid_a (zid_a (zid_a zid_n))) zid_n ?_
  delta f_X12_gains at h
  refine g_aload_n (pc' := 1)  hc rfl rfl rfl rfl ?_
  refine z_virt (as := []) (a := 75) (r := []) hc rfl rfl rfl rfl sh_75 rfl zco_196 rfl rfl rfl ?_
  refine ok_X12_tries_75 (zdp hd rfl) (zwp_mono (zwp_bind h) ?_)
  rintro o1 h
  refine z_po (pc' := 4) (st' := []) (v := none) (L' := [(91, none, o1), (93, none, (I 93)), (94, none, (I 94))]) (K' := []) zco_196 rfl rfl rfl rfl rfl rfl rfl rfl ?_
  refine g_iload_n (pc' := 5)  hc rfl rfl rfl ?_
  refine g_iconst (pc' := 6) (v := (1 : Int32)) hc rfl zki_1 rfl ?_
  refine zjn (G := (fun (j2 : (Nat → Int32)) => pm_ev C_X12_gains (d + 1) (pm_call M cost zext d) cost (false, false) 108 0 0 Q 19 [some (.ref 75), some (.int a1), some (.int a2), some (.int a3), some (.int a4), none, none] [] 0 0 (zS p q I [(91, none, j2), (93, none, (I 93)), (94, none, (I 94))] J []))) (zwp_bind h) ?_ (fun h => ?_)
  · rintro j2 h
    refine g_iload (pc' := 21)  hc rfl rfl rfl ?_
    refine g_iconst (pc' := 22) (v := (1 : Int32)) hc rfl zki_1 rfl ?_
    refine zjn (G := (fun (j3 : (Nat → Int32)) => pm_ev C_X12_gains (d + 1) (pm_call M cost zext d) cost (false, false) 108 0 0 Q 35 [some (.ref 75), some (.int a1), some (.int a2), some (.int a3), some (.int a4), none, none] [] 0 0 (zS p q I [(91, none, j3), (93, none, (I 93)), (94, none, (I 94))] J []))) (zwp_bind h) ?_ (fun h => ?_)
    · rintro j3 h
      refine g_iconst (pc' := 36) (v := (0 : Int32)) hc rfl zki_0 rfl ?_
      refine g_istore (pc' := 38) (ls1 := [some (.ref 75), some (.int a1), some (.int a2), some (.int a3), some (.int a4), some (.int (0 : Int32)), none]) hc rfl (zlt rfl) rfl rfl ?_
      refine g_iconst (pc' := 39) (v := (0 : Int32)) hc rfl zki_0 rfl ?_
      refine g_istore (pc' := 41) (ls1 := [some (.ref 75), some (.int a1), some (.int a2), some (.int a3), some (.int a4), some (.int (0 : Int32)), some (.int (0 : Int32))]) hc rfl (zlt rfl) rfl rfl ?_
      refine zjn (G := (fun (g : Int32 × (Nat → Int32) × (Nat → Int32) × (Nat → Int32)) => match g with | (y9, y11, y12, y13) => ∀ z10 : Option Value, znl z10 = true → pm_ev C_X12_gains (d + 1) (pm_call M cost zext d) cost (false, false) 108 0 0 Q 80 [some (.ref 75), some (.int a1), some (.int a2), some (.int a3), some (.int a4), some (.int y9), z10] [] 0 0 (zS p q I [(91, none, y12), (93, none, y13), (94, none, y11)] J []))) (zwp_bind h) ?_ (fun h => ?_)
      · rintro ⟨y9, y11, y12, y13⟩ h z10 hz10
        refine g_iload (pc' := 82)  hc rfl rfl rfl ?_
        refine g_aload_n (pc' := 83)  hc rfl rfl rfl rfl ?_
        refine z_getR (pc' := 86)  hc rfl rfl rfl sh_75 rfl rfl ?_
        refine g_bipush (pc' := 88) (v := (79 : Int32)) hc rfl zkb_79 rfl ?_
        refine g_iload_n (pc' := 89)  hc rfl rfl rfl ?_
        refine g_iadd (pc' := 90)  hc rfl rfl ?_
        have hb := (zwp_bnd h).1
        replace h := (zwp_bnd h).2
        refine z_iaload (pc' := 91) (v := (y12 ((79 : Int32) + a1).toNatClampNeg)) hc rfl rfl sh_91 hb rfl rfl ?_
        refine g_iconst (pc' := 92) (v := (2 : Int32)) hc rfl zki_2 rfl ?_
        refine g_idiv (pc' := 93)  hc rfl (by decide) rfl ?_
        refine g_isub (pc' := 94)  hc rfl rfl ?_
        replace h := zws h
        exact g_ireturn hc rfl rfl rfl (fun _ => ⟨rfl, rfl⟩) h
      refine zitr_ev (G := (fun (g : Int32 × Int32 × (Nat → Int32) × (Nat → Int32) × (Nat → Int32)) => match g with | (x4, x5, x6, x7, x8) => pm_ev C_X12_gains (d + 1) (pm_call M cost zext d) cost (false, false) 108 0 0 Q 41 [some (.ref 75), some (.int a1), some (.int a2), some (.int a3), some (.int a4), some (.int x4), some (.int x5)] [] 0 0 (zS p q I [(91, none, x7), (93, none, x8), (94, none, x6)] J []))) ?_ zFU ((0 : Int32), (0 : Int32), (I 94), j3, (I 93)) h
      rintro ⟨x4, x5, x6, x7, x8⟩ h
      refine g_iload (pc' := 43)  hc rfl rfl rfl ?_
      refine g_bipush (pc' := 45) (v := (8 : Int32)) hc rfl zkb_8 rfl ?_
      refine g_icmp_ge (pc' := 48) hc rfl rfl (fun hx => ?_) (fun hx => ?_)
      · replace h := zwp_t h hx
        replace h := zwp_r h
        exact h (some (.int x5)) rfl
      · replace h := zwp_f h hx
        refine g_aload_n (pc' := 49)  hc rfl rfl rfl rfl ?_
        refine g_bipush (pc' := 51) (v := (70 : Int32)) hc rfl zkb_70 rfl ?_
        refine z_virt (as := [.int (70 : Int32)]) (a := 75) (r := []) hc rfl rfl rfl rfl sh_75 rfl zco_209 rfl rfl rfl ?_
        refine ok_X12_hourGoes_75 (zdp hd rfl) (zwp_mono (zwp_bind h) ?_)
        rintro ⟨o14, o15, o16⟩ h
        refine z_po (pc' := 54) (st' := []) (v := none) (L' := [(91, none, o15), (93, none, o16), (94, none, o14)]) (K' := []) zco_209 rfl rfl rfl rfl rfl rfl rfl rfl ?_
        refine g_iload (pc' := 56)  hc rfl rfl rfl ?_
        refine g_aload_n (pc' := 57)  hc rfl rfl rfl rfl ?_
        refine g_bipush (pc' := 59) (v := (70 : Int32)) hc rfl zkb_70 rfl ?_
        refine g_iload_n (pc' := 60)  hc rfl rfl rfl ?_
        refine z_virt (as := [.int (70 : Int32), .int a1]) (a := 75) (r := [.int x4]) hc rfl rfl rfl rfl sh_75 rfl zco_202 rfl rfl rfl ?_
        refine ok_X12_withIt_75 (zdp hd rfl) (zwp_mono (zwp_bind h) ?_)
        rintro r17 h
        refine z_po (pc' := 63) (st' := [.int r17, .int x4]) (v := (some (.int r17))) (L' := [(91, none, o15), (93, none, o16), (94, none, o14)]) (K' := []) zco_202 rfl rfl rfl rfl rfl rfl rfl rfl ?_
        refine zjn (G := (fun (j18 : Int32) => pm_ev C_X12_gains (d + 1) (pm_call M cost zext d) cost (false, false) 108 0 0 Q 71 [some (.ref 75), some (.int a1), some (.int a2), some (.int a3), some (.int a4), some (.int x4), some (.int x5)] [.int j18, .int x4] 0 0 (zS p q I [(91, none, o15), (93, none, o16), (94, none, o14)] J []))) (zwp_bind h) ?_ (fun h => ?_)
        · rintro j18 h
          refine g_iadd (pc' := 72)  hc rfl rfl ?_
          refine g_istore (pc' := 74) (ls1 := [some (.ref 75), some (.int a1), some (.int a2), some (.int a3), some (.int a4), some (.int (x4 + j18)), some (.int x5)]) hc rfl (zlt rfl) rfl rfl ?_
          refine g_iinc (pc' := 77) (ls1 := [some (.ref 75), some (.int a1), some (.int a2), some (.int a3), some (.int a4), some (.int (x4 + j18)), some (.int (x5 + (1 : Int32)))]) hc rfl rfl zki_1 (zlt rfl) rfl rfl ?_
          refine g_goto hc rfl ?_
          replace h := zwp_l h
          exact h
        refine g_if_le (pc' := 66) hc rfl rfl (fun hx => ?_) (fun hx => ?_)
        · replace h := zwp_t h hx
          refine g_iconst (pc' := 71) (v := (0 : Int32)) hc rfl zki_0 rfl ?_
          replace h := zws h
          exact h
        · replace h := zwp_f h hx
          refine g_iconst (pc' := 67) (v := (2 : Int32)) hc rfl zki_2 rfl ?_
          refine g_goto hc rfl ?_
          replace h := zws h
          exact h
    refine g_icmp_ne (pc' := 25) hc rfl rfl (fun hx => ?_) (fun hx => ?_)
    · replace h := zwp_f h hx
      replace h := zws h
      exact h
    · replace h := zwp_t h hx
      refine g_aload_n (pc' := 26)  hc rfl rfl rfl rfl ?_
      refine z_getR (pc' := 29)  hc rfl rfl rfl sh_75 rfl rfl ?_
      refine g_bipush (pc' := 31) (v := (87 : Int32)) hc rfl zkb_87 rfl ?_
      refine g_iload_n (pc' := 32)  hc rfl rfl rfl ?_
      refine g_iadd (pc' := 33)  hc rfl rfl ?_
      refine g_iconst (pc' := 34) (v := (3 : Int32)) hc rfl zki_3 rfl ?_
      have hb := (zwp_bnd h).1
      replace h := (zwp_bnd h).2
      refine z_iastore (pc' := 35) (g := j2) (L' := [(91, none, (upd j2 ((87 : Int32) + a2).toNatClampNeg (3 : Int32))), (93, none, (I 93)), (94, none, (I 94))]) hc rfl rfl sh_91 hb rfl rfl rfl rfl ?_
      replace h := zws h
      exact h
  refine g_icmp_ne (pc' := 9) hc rfl rfl (fun hx => ?_) (fun hx => ?_)
  · replace h := zwp_f h hx
    replace h := zws h
    exact h
  · replace h := zwp_t h hx
    refine g_aload_n (pc' := 10)  hc rfl rfl rfl rfl ?_
    refine z_getR (pc' := 13)  hc rfl rfl rfl sh_75 rfl rfl ?_
    refine g_bipush (pc' := 15) (v := (87 : Int32)) hc rfl zkb_87 rfl ?_
    refine g_iload_n (pc' := 16)  hc rfl rfl rfl ?_
    refine g_iadd (pc' := 17)  hc rfl rfl ?_
    refine g_iconst (pc' := 18) (v := (3 : Int32)) hc rfl zki_3 rfl ?_
    have hb := (zwp_bnd h).1
    replace h := (zwp_bnd h).2
    refine z_iastore (pc' := 19) (g := o1) (L' := [(91, none, (upd o1 ((87 : Int32) + a1).toNatClampNeg (3 : Int32))), (93, none, (I 93)), (94, none, (I 94))]) hc rfl rfl sh_91 hb rfl rfl rfl rfl ?_
    replace h := zws h
    exact h
set_option maxRecDepth 4000 in
theorem ok_X12_game_75 {p q : Nat} {I : pI} {J : pJ} {a1 : Int32} {a2 : Int32} {a3 : Int32} {Q : pQ} {d : Nat} (hd : 8 ≤ d) (h : zwp (f_X12_game a1 a2 a3 (I 80) (I 75 6) (I 75 53) (I 75 3) (I 75 7) (I 75 8) (I 79) (I 75 5) (I 94) (I 91) (I 75 2) (I 75 0) (I 93) (I 76) (I 77) (I 75 1)) (fun w => match w with | (r, o0, o1, o2, o3) => Q (.inl (some (.int r))) (zS p q I [(75, some 0, fun _ => o2), (91, none, o1), (93, none, o3), (94, none, o0)] J []))) : pm_call M cost zext d 259 [.ref 75, .int a1, .int a2, .int a3] (pm_st 108 (shp p q) I J) Q := by
  obtain ⟨d, rfl⟩ := zd1 hd rfl
  have hc := pm_call_m (M := M) (cost := cost) zext_m d
  refine z_in (L := [(75, some 0, fun _ => (I 75 0)), (91, none, (I 91)), (93, none, (I 93)), (94, none, (I 94))]) (K := []) (ls := [some (.ref 75), some (.int a1), some (.int a2), some (.int a3), none, none, none, none, none]) zmt_259 zco_259 rfl rfl (zid_s (zid_a (zid_a (zid_a zid_n)))) zid_n ?_
  delta f_X12_game at h
  refine g_aload_n (pc' := 1)  hc rfl rfl rfl rfl ?_
  refine g_iconst (pc' := 2) (v := (0 : Int32)) hc rfl zki_0 rfl ?_
  refine z_putI (pc' := 5) (L' := [(75, some 0, fun _ => (0 : Int32)), (91, none, (I 91)), (93, none, (I 93)), (94, none, (I 94))]) hc rfl rfl rfl sh_75 rfl zft_12_0 rfl (fun h => Bool.noConfusion h) rfl rfl rfl ?_
  refine g_aload_n (pc' := 6)  hc rfl rfl rfl rfl ?_
  refine g_iload_n (pc' := 7)  hc rfl rfl rfl ?_
  refine z_virt (as := [.int a1]) (a := 75) (r := []) hc rfl rfl rfl rfl sh_75 rfl zco_216 rfl rfl rfl ?_
  refine ok_X12_isFigure_75 (zdp hd rfl) (zwp_mono (zwp_bind h) ?_)
  rintro ⟨r2, o1⟩ h
  refine z_po (pc' := 10) (st' := [.int r2]) (v := (some (.int r2))) (L' := [(75, some 0, fun _ => o1), (91, none, (I 91)), (93, none, (I 93)), (94, none, (I 94))]) (K' := []) zco_216 rfl rfl rfl rfl rfl rfl rfl rfl ?_
  refine g_if_eq (pc' := 13) hc rfl rfl (fun hx => ?_) (fun hx => ?_)
  · replace h := zwp_t h hx
    refine g_iconst (pc' := 49) (v := (0 : Int32)) hc rfl zki_0 rfl ?_
    replace h := zws h
    exact g_ireturn hc rfl rfl rfl (fun _ => ⟨rfl, rfl⟩) h
  · replace h := zwp_f h hx
    refine g_aload_n (pc' := 14)  hc rfl rfl rfl rfl ?_
    refine g_iload_n (pc' := 15)  hc rfl rfl rfl ?_
    refine z_virt (as := [.int a2]) (a := 75) (r := []) hc rfl rfl rfl rfl sh_75 rfl zco_216 rfl rfl rfl ?_
    refine ok_X12_isFigure_75 (zdp hd rfl) (zwp_mono (zwp_bind h) ?_)
    rintro ⟨r4, o3⟩ h
    refine z_po (pc' := 18) (st' := [.int r4]) (v := (some (.int r4))) (L' := [(75, some 0, fun _ => o3), (91, none, (I 91)), (93, none, (I 93)), (94, none, (I 94))]) (K' := []) zco_216 rfl rfl rfl rfl rfl rfl rfl rfl ?_
    refine g_if_eq (pc' := 21) hc rfl rfl (fun hx => ?_) (fun hx => ?_)
    · replace h := zwp_t h hx
      refine g_iconst (pc' := 49) (v := (0 : Int32)) hc rfl zki_0 rfl ?_
      replace h := zws h
      exact g_ireturn hc rfl rfl rfl (fun _ => ⟨rfl, rfl⟩) h
    · replace h := zwp_f h hx
      refine g_aload_n (pc' := 22)  hc rfl rfl rfl rfl ?_
      refine g_iload_n (pc' := 23)  hc rfl rfl rfl ?_
      refine g_iconst (pc' := 24) (v := (1 : Int32)) hc rfl zki_1 rfl ?_
      refine z_virt (as := [.int a3, .int (1 : Int32)]) (a := 75) (r := []) hc rfl rfl rfl rfl sh_75 rfl zco_218 rfl rfl rfl ?_
      refine ok_X12_isWhat_75 (zdp hd rfl) (zwp_mono (zwp_bind h) ?_)
      rintro ⟨r6, o5⟩ h
      refine z_po (pc' := 27) (st' := [.int r6]) (v := (some (.int r6))) (L' := [(75, some 0, fun _ => o5), (91, none, (I 91)), (93, none, (I 93)), (94, none, (I 94))]) (K' := []) zco_218 rfl rfl rfl rfl rfl rfl rfl rfl ?_
      refine g_if_eq (pc' := 30) hc rfl rfl (fun hx => ?_) (fun hx => ?_)
      · replace h := zwp_t h hx
        refine g_iconst (pc' := 49) (v := (0 : Int32)) hc rfl zki_0 rfl ?_
        replace h := zws h
        exact g_ireturn hc rfl rfl rfl (fun _ => ⟨rfl, rfl⟩) h
      · replace h := zwp_f h hx
        refine g_aload_n (pc' := 31)  hc rfl rfl rfl rfl ?_
        refine g_iload_n (pc' := 32)  hc rfl rfl rfl ?_
        refine g_iload_n (pc' := 33)  hc rfl rfl rfl ?_
        refine zjn (G := (fun (j7 : Int32) => pm_ev C_X12_game (d + 1) (pm_call M cost zext d) cost (false, false) 108 0 0 Q 41 [some (.ref 75), some (.int a1), some (.int a2), some (.int a3), none, none, none, none, none] [.int j7, .ref 75] 0 0 (zS p q I [(75, some 0, fun _ => o5), (91, none, (I 91)), (93, none, (I 93)), (94, none, (I 94))] J []))) (zwp_bind h) ?_ (fun h => ?_)
        · rintro j7 h
          refine g_iconst (pc' := 42) (v := (2 : Int32)) hc rfl zki_2 rfl ?_
          refine z_virt (as := [.int j7, .int (2 : Int32)]) (a := 75) (r := []) hc rfl rfl rfl rfl sh_75 rfl zco_153 rfl rfl rfl ?_
          refine ok_X12_right_75 (zdp hd rfl) (zwp_mono (zwp_bind h) ?_)
          rintro ⟨r9, o8⟩ h
          refine z_po (pc' := 45) (st' := [.int r9]) (v := (some (.int r9))) (L' := [(75, some 0, fun _ => o8), (91, none, (I 91)), (93, none, (I 93)), (94, none, (I 94))]) (K' := []) zco_153 rfl rfl rfl rfl rfl rfl rfl rfl ?_
          refine g_if_ne (pc' := 48) hc rfl rfl (fun hx => ?_) (fun hx => ?_)
          · replace h := zwp_f h hx
            refine g_iconst (pc' := 51) (v := (0 : Int32)) hc rfl zki_0 rfl ?_
            refine g_istore (pc' := 53) (ls1 := [some (.ref 75), some (.int a1), some (.int a2), some (.int a3), some (.int (0 : Int32)), none, none, none, none]) hc rfl (zlt rfl) rfl rfl ?_
            refine g_iconst (pc' := 54) (v := (-1 : Int32)) hc rfl zki_m1 rfl ?_
            refine g_istore (pc' := 56) (ls1 := [some (.ref 75), some (.int a1), some (.int a2), some (.int a3), some (.int (0 : Int32)), some (.int (-1 : Int32)), none, none, none]) hc rfl (zlt rfl) rfl rfl ?_
            refine g_iconst (pc' := 57) (v := (0 : Int32)) hc rfl zki_0 rfl ?_
            refine g_istore (pc' := 59) (ls1 := [some (.ref 75), some (.int a1), some (.int a2), some (.int a3), some (.int (0 : Int32)), some (.int (-1 : Int32)), some (.int (0 : Int32)), none, none]) hc rfl (zlt rfl) rfl rfl ?_
            refine zjn (G := (fun (g : Int32 × Int32 × (Nat → Int32) × (Nat → Int32) × (Nat → Int32)) => match g with | (y18, y19, y23, y24, y25) => ∀ z20 : Option Value, znl z20 = true → ∀ z21 : Option Value, znl z21 = true → ∀ z22 : Option Value, znl z22 = true → pm_ev C_X12_game (d + 1) (pm_call M cost zext d) cost (false, false) 108 0 0 Q 155 [some (.ref 75), some (.int a1), some (.int a2), some (.int a3), some (.int y18), some (.int y19), z20, z21, z22] [] 0 0 (zS p q I [(75, some 0, fun _ => o8), (91, none, y24), (93, none, y25), (94, none, y23)] J []))) (zwp_bind h) ?_ (fun h => ?_)
            · rintro ⟨y18, y19, y23, y24, y25⟩ h z20 hz20 z21 hz21 z22 hz22
              refine g_iload_n (pc' := 156)  hc rfl rfl rfl ?_
              refine g_if_ne (pc' := 159) hc rfl rfl (fun hx => ?_) (fun hx => ?_)
              · replace h := zwp_f h hx
                refine g_iload (pc' := 166)  hc rfl rfl rfl ?_
                replace h := zws h
                exact g_ireturn hc rfl rfl rfl (fun _ => ⟨rfl, rfl⟩) h
              · replace h := zwp_t h hx
                refine g_iload (pc' := 161)  hc rfl rfl rfl ?_
                refine g_goto hc rfl ?_
                replace h := zws h
                exact g_ireturn hc rfl rfl rfl (fun _ => ⟨rfl, rfl⟩) h
            refine zitr_ev (G := (fun (g : Int32 × Int32 × Int32 × (Nat → Int32) × (Nat → Int32) × (Nat → Int32)) => match g with | (x10, x11, x12, x15, x16, x17) => ∀ z13 : Option Value, znl z13 = true → ∀ z14 : Option Value, znl z14 = true → pm_ev C_X12_game (d + 1) (pm_call M cost zext d) cost (false, false) 108 0 0 Q 59 [some (.ref 75), some (.int a1), some (.int a2), some (.int a3), some (.int x10), some (.int x11), some (.int x12), z13, z14] [] 0 0 (zS p q I [(75, some 0, fun _ => o8), (91, none, x16), (93, none, x17), (94, none, x15)] J []))) ?_ zFU ((0 : Int32), (-1 : Int32), (0 : Int32), (I 94), (I 91), (I 93)) h none rfl none rfl
            rintro ⟨x10, x11, x12, x15, x16, x17⟩ h z13 hz13 z14 hz14
            refine g_iload (pc' := 61)  hc rfl rfl rfl ?_
            refine g_iconst (pc' := 62) (v := (4 : Int32)) hc rfl zki_4 rfl ?_
            refine g_icmp_ge (pc' := 65) hc rfl rfl (fun hx => ?_) (fun hx => ?_)
            · replace h := zwp_t h hx
              replace h := zwp_r h
              exact h (some (.int x12)) rfl z13 hz13 z14 hz14
            · replace h := zwp_f h hx
              refine g_iload (pc' := 67)  hc rfl rfl rfl ?_
              refine g_iconst (pc' := 68) (v := (2 : Int32)) hc rfl zki_2 rfl ?_
              refine g_idiv (pc' := 69)  hc rfl (by decide) rfl ?_
              refine g_istore (pc' := 71) (ls1 := [some (.ref 75), some (.int a1), some (.int a2), some (.int a3), some (.int x10), some (.int x11), some (.int x12), some (.int (x12 / (2 : Int32))), z14]) hc rfl (zlt rfl) rfl rfl ?_
              refine g_iload (pc' := 73)  hc rfl rfl rfl ?_
              refine g_iconst (pc' := 74) (v := (2 : Int32)) hc rfl zki_2 rfl ?_
              refine g_irem (pc' := 75)  hc rfl (by decide) rfl ?_
              refine g_istore (pc' := 77) (ls1 := [some (.ref 75), some (.int a1), some (.int a2), some (.int a3), some (.int x10), some (.int x11), some (.int x12), some (.int (x12 / (2 : Int32))), some (.int (x12 - x12 / (2 : Int32) * (2 : Int32)))]) hc rfl (zlt rfl) rfl rfl ?_
              refine g_aload_n (pc' := 78)  hc rfl rfl rfl rfl ?_
              refine g_iload_n (pc' := 79)  hc rfl rfl rfl ?_
              refine g_iload_n (pc' := 80)  hc rfl rfl rfl ?_
              refine g_iconst (pc' := 81) (v := (1 : Int32)) hc rfl zki_1 rfl ?_
              refine g_iload (pc' := 83)  hc rfl rfl rfl ?_
              refine g_isub (pc' := 84)  hc rfl rfl ?_
              refine g_iload (pc' := 86)  hc rfl rfl rfl ?_
              refine z_virt (as := [.int a1, .int a2, .int ((1 : Int32) - (x12 / (2 : Int32))), .int (x12 - x12 / (2 : Int32) * (2 : Int32))]) (a := 75) (r := []) hc rfl rfl rfl rfl sh_75 rfl zco_258 rfl rfl rfl ?_
              refine ok_X12_gains_75 (zdp hd rfl) (zwp_mono (zwp_bind h) ?_)
              rintro ⟨r29, o26, o27, o28⟩ h
              refine z_po (pc' := 89) (st' := [.int r29]) (v := (some (.int r29))) (L' := [(75, some 0, fun _ => o8), (91, none, o27), (93, none, o28), (94, none, o26)]) (K' := []) zco_258 rfl rfl rfl rfl rfl rfl rfl rfl ?_
              refine g_aload_n (pc' := 90)  hc rfl rfl rfl rfl ?_
              refine g_iload_n (pc' := 91)  hc rfl rfl rfl ?_
              refine g_iload_n (pc' := 92)  hc rfl rfl rfl ?_
              refine g_iload (pc' := 94)  hc rfl rfl rfl ?_
              refine g_iload (pc' := 96)  hc rfl rfl rfl ?_
              refine z_virt (as := [.int a1, .int a2, .int (x12 / (2 : Int32)), .int (x12 - x12 / (2 : Int32) * (2 : Int32))]) (a := 75) (r := [.int r29]) hc rfl rfl rfl rfl sh_75 rfl zco_258 rfl rfl rfl ?_
              refine ok_X12_gains_75 (zdp hd rfl) (zwp_mono (zwp_bind h) ?_)
              rintro ⟨r33, o30, o31, o32⟩ h
              refine z_po (pc' := 99) (st' := [.int r33, .int r29]) (v := (some (.int r33))) (L' := [(75, some 0, fun _ => o8), (91, none, o31), (93, none, o32), (94, none, o30)]) (K' := []) zco_258 rfl rfl rfl rfl rfl rfl rfl rfl ?_
              refine g_icmp_gt (pc' := 102) hc rfl rfl (fun hx => ?_) (fun hx => ?_)
              · replace h := zwp_t h hx
                refine g_iinc (pc' := 152) (ls1 := [some (.ref 75), some (.int a1), some (.int a2), some (.int a3), some (.int x10), some (.int x11), some (.int (x12 + (1 : Int32))), some (.int (x12 / (2 : Int32))), some (.int (x12 - x12 / (2 : Int32) * (2 : Int32)))]) hc rfl rfl zki_1 (zlt rfl) rfl rfl ?_
                refine g_goto hc rfl ?_
                replace h := zwp_l h
                exact h (some (.int (x12 / (2 : Int32)))) rfl (some (.int (x12 - x12 / (2 : Int32) * (2 : Int32)))) rfl
              · replace h := zwp_f h hx
                refine g_aload_n (pc' := 103)  hc rfl rfl rfl rfl ?_
                refine g_iload_n (pc' := 104)  hc rfl rfl rfl ?_
                refine g_iload_n (pc' := 105)  hc rfl rfl rfl ?_
                refine g_iconst (pc' := 106) (v := (1 : Int32)) hc rfl zki_1 rfl ?_
                refine g_iload (pc' := 108)  hc rfl rfl rfl ?_
                refine g_isub (pc' := 109)  hc rfl rfl ?_
                refine g_iload (pc' := 111)  hc rfl rfl rfl ?_
                refine z_virt (as := [.int a2, .int a1, .int ((1 : Int32) - (x12 - x12 / (2 : Int32) * (2 : Int32))), .int (x12 / (2 : Int32))]) (a := 75) (r := []) hc rfl rfl rfl rfl sh_75 rfl zco_258 rfl rfl rfl ?_
                refine ok_X12_gains_75 (zdp hd rfl) (zwp_mono (zwp_bind h) ?_)
                rintro ⟨r37, o34, o35, o36⟩ h
                refine z_po (pc' := 114) (st' := [.int r37]) (v := (some (.int r37))) (L' := [(75, some 0, fun _ => o8), (91, none, o35), (93, none, o36), (94, none, o34)]) (K' := []) zco_258 rfl rfl rfl rfl rfl rfl rfl rfl ?_
                refine g_aload_n (pc' := 115)  hc rfl rfl rfl rfl ?_
                refine g_iload_n (pc' := 116)  hc rfl rfl rfl ?_
                refine g_iload_n (pc' := 117)  hc rfl rfl rfl ?_
                refine g_iload (pc' := 119)  hc rfl rfl rfl ?_
                refine g_iload (pc' := 121)  hc rfl rfl rfl ?_
                refine z_virt (as := [.int a2, .int a1, .int (x12 - x12 / (2 : Int32) * (2 : Int32)), .int (x12 / (2 : Int32))]) (a := 75) (r := [.int r37]) hc rfl rfl rfl rfl sh_75 rfl zco_258 rfl rfl rfl ?_
                refine ok_X12_gains_75 (zdp hd rfl) (zwp_mono (zwp_bind h) ?_)
                rintro ⟨r41, o38, o39, o40⟩ h
                refine z_po (pc' := 124) (st' := [.int r41, .int r37]) (v := (some (.int r41))) (L' := [(75, some 0, fun _ => o8), (91, none, o39), (93, none, o40), (94, none, o38)]) (K' := []) zco_258 rfl rfl rfl rfl rfl rfl rfl rfl ?_
                refine g_icmp_le (pc' := 127) hc rfl rfl (fun hx => ?_) (fun hx => ?_)
                · replace h := zwp_t h hx
                  refine g_iinc (pc' := 133) (ls1 := [some (.ref 75), some (.int a1), some (.int a2), some (.int a3), some (.int (x10 + (1 : Int32))), some (.int x11), some (.int x12), some (.int (x12 / (2 : Int32))), some (.int (x12 - x12 / (2 : Int32) * (2 : Int32)))]) hc rfl rfl zki_1 (zlt rfl) rfl rfl ?_
                  refine g_iload (pc' := 135)  hc rfl rfl rfl ?_
                  refine g_iconst (pc' := 136) (v := (-1 : Int32)) hc rfl zki_m1 rfl ?_
                  refine g_icmp_ne (pc' := 139) hc rfl rfl (fun hx => ?_) (fun hx => ?_)
                  · replace h := zwp_f h hx
                    refine g_iinc (pc' := 152) (ls1 := [some (.ref 75), some (.int a1), some (.int a2), some (.int a3), some (.int (x10 + (1 : Int32))), some (.int x11), some (.int (x12 + (1 : Int32))), some (.int (x12 / (2 : Int32))), some (.int (x12 - x12 / (2 : Int32) * (2 : Int32)))]) hc rfl rfl zki_1 (zlt rfl) rfl rfl ?_
                    refine g_goto hc rfl ?_
                    replace h := zwp_l h
                    exact h (some (.int (x12 / (2 : Int32)))) rfl (some (.int (x12 - x12 / (2 : Int32) * (2 : Int32)))) rfl
                  · replace h := zwp_t h hx
                    refine g_bipush (pc' := 141) (v := (10 : Int32)) hc rfl zkb_10 rfl ?_
                    refine g_iload (pc' := 143)  hc rfl rfl rfl ?_
                    refine g_imul (pc' := 144)  hc rfl rfl ?_
                    refine g_iload (pc' := 146)  hc rfl rfl rfl ?_
                    refine g_iadd (pc' := 147)  hc rfl rfl ?_
                    refine g_istore (pc' := 149) (ls1 := [some (.ref 75), some (.int a1), some (.int a2), some (.int a3), some (.int (x10 + (1 : Int32))), some (.int (((10 : Int32) * (x12 / (2 : Int32))) + (x12 - x12 / (2 : Int32) * (2 : Int32)))), some (.int x12), some (.int (x12 / (2 : Int32))), some (.int (x12 - x12 / (2 : Int32) * (2 : Int32)))]) hc rfl (zlt rfl) rfl rfl ?_
                    refine g_iinc (pc' := 152) (ls1 := [some (.ref 75), some (.int a1), some (.int a2), some (.int a3), some (.int (x10 + (1 : Int32))), some (.int (((10 : Int32) * (x12 / (2 : Int32))) + (x12 - x12 / (2 : Int32) * (2 : Int32)))), some (.int (x12 + (1 : Int32))), some (.int (x12 / (2 : Int32))), some (.int (x12 - x12 / (2 : Int32) * (2 : Int32)))]) hc rfl rfl zki_1 (zlt rfl) rfl rfl ?_
                    refine g_goto hc rfl ?_
                    replace h := zwp_l h
                    exact h (some (.int (x12 / (2 : Int32)))) rfl (some (.int (x12 - x12 / (2 : Int32) * (2 : Int32)))) rfl
                · replace h := zwp_f h hx
                  refine g_goto hc rfl ?_
                  refine g_iinc (pc' := 152) (ls1 := [some (.ref 75), some (.int a1), some (.int a2), some (.int a3), some (.int x10), some (.int x11), some (.int (x12 + (1 : Int32))), some (.int (x12 / (2 : Int32))), some (.int (x12 - x12 / (2 : Int32) * (2 : Int32)))]) hc rfl rfl zki_1 (zlt rfl) rfl rfl ?_
                  refine g_goto hc rfl ?_
                  replace h := zwp_l h
                  exact h (some (.int (x12 / (2 : Int32)))) rfl (some (.int (x12 - x12 / (2 : Int32) * (2 : Int32)))) rfl
          · replace h := zwp_t h hx
            refine g_iconst (pc' := 49) (v := (0 : Int32)) hc rfl zki_0 rfl ?_
            replace h := zws h
            exact g_ireturn hc rfl rfl rfl (fun _ => ⟨rfl, rfl⟩) h
        refine g_icmp_eq (pc' := 36) hc rfl rfl (fun hx => ?_) (fun hx => ?_)
        · replace h := zwp_t h hx
          refine g_iconst (pc' := 41) (v := (0 : Int32)) hc rfl zki_0 rfl ?_
          replace h := zws h
          exact h
        · replace h := zwp_f h hx
          refine g_iconst (pc' := 37) (v := (1 : Int32)) hc rfl zki_1 rfl ?_
          refine g_goto hc rfl ?_
          replace h := zws h
          exact h
set_option maxRecDepth 4000 in
theorem ok_X12_draw_75 {p q : Nat} {I : pI} {J : pJ} {a1 : Int32} {Q : pQ} {d : Nat} (hd : 1 ≤ d) (h : zwp (f_X12_draw a1 (I 75 64)) (fun w => match w with | (r, o0) => Q (.inl (some (.int r))) (zS p q I [(75, some 64, fun _ => o0)] J []))) : pm_call M cost zext d 260 [.ref 75, .int a1] (pm_st 108 (shp p q) I J) Q := by
  obtain ⟨d, rfl⟩ := zd1 hd rfl
  have hc := pm_call_m (M := M) (cost := cost) zext_m d
  refine z_in (L := [(75, some 64, fun _ => (I 75 64))]) (K := []) (ls := [some (.ref 75), some (.int a1)]) zmt_260 zco_260 rfl rfl (zid_s zid_n) zid_n ?_
  delta f_X12_draw at h
  refine g_aload_n (pc' := 1)  hc rfl rfl rfl rfl ?_
  refine g_aload_n (pc' := 2)  hc rfl rfl rfl rfl ?_
  refine z_getI (pc' := 5) (v := (I 75 64)) hc rfl rfl rfl sh_75 rfl rfl rfl ?_
  refine g_ldc_w_i (pc' := 8) (v := (1103515245 : Int32)) hc rfl rfl rfl ?_
  refine g_imul (pc' := 9)  hc rfl rfl ?_
  refine g_sipush (pc' := 12) (v := (12345 : Int32)) hc rfl zks_12345 rfl ?_
  refine g_iadd (pc' := 13)  hc rfl rfl ?_
  refine z_putI (pc' := 16) (L' := [(75, some 64, fun _ => ((((I 75 64)) * (1103515245 : Int32)) + (12345 : Int32)))]) hc rfl rfl rfl sh_75 rfl zft_12_64 rfl (fun h => Bool.noConfusion h) rfl rfl rfl ?_
  refine g_aload_n (pc' := 17)  hc rfl rfl rfl rfl ?_
  refine z_getI (pc' := 20) (v := ((((I 75 64)) * (1103515245 : Int32)) + (12345 : Int32))) hc rfl rfl rfl sh_75 rfl rfl rfl ?_
  refine g_bipush (pc' := 22) (v := (16 : Int32)) hc rfl zkb_16 rfl ?_
  refine g_ishr (pc' := 23)  hc rfl rfl ?_
  refine g_sipush (pc' := 26) (v := (32767 : Int32)) hc rfl zks_32767 rfl ?_
  refine g_iand (pc' := 27)  hc rfl rfl ?_
  refine g_iload_n (pc' := 28)  hc rfl rfl rfl ?_
  have hz := (zwp_nz h).1
  replace h := (zwp_nz h).2
  refine g_irem (pc' := 29)  hc rfl hz rfl ?_
  replace h := zws h
  exact g_ireturn hc rfl rfl rfl (fun _ => ⟨rfl, rfl⟩) h
set_option maxRecDepth 4000 in
theorem ok_X12_happens_75 {p q : Nat} {I : pI} {J : pJ} {Q : pQ} {d : Nat} (hd : 2 ≤ d) (h : zwp (f_X12_happens (I 75 3) (I 75 64) (I 91) (I 75 2) (I 75 1)) (fun w => match w with | (o0, o1) => Q (.inl none) (zS p q I [(75, some 64, fun _ => o0), (91, none, o1)] J []))) : pm_call M cost zext d 261 [.ref 75] (pm_st 108 (shp p q) I J) Q := by
  obtain ⟨d, rfl⟩ := zd1 hd rfl
  have hc := pm_call_m (M := M) (cost := cost) zext_m d
  refine z_in (L := [(75, some 64, fun _ => (I 75 64)), (91, none, (I 91))]) (K := []) (ls := [some (.ref 75), none, none, none]) zmt_261 zco_261 rfl rfl (zid_s (zid_a zid_n)) zid_n ?_
  delta f_X12_happens at h
  refine g_aload_n (pc' := 1)  hc rfl rfl rfl rfl ?_
  refine g_bipush (pc' := 3) (v := (6 : Int32)) hc rfl zkb_6 rfl ?_
  refine z_virt (as := [.int (6 : Int32)]) (a := 75) (r := []) hc rfl rfl rfl rfl sh_75 rfl zco_260 rfl rfl rfl ?_
  refine ok_X12_draw_75 (zdp hd rfl) (zwp_mono (zwp_bind h) ?_)
  rintro ⟨r2, o1⟩ h
  refine z_po (pc' := 6) (st' := [.int r2]) (v := (some (.int r2))) (L' := [(75, some 64, fun _ => o1), (91, none, (I 91))]) (K' := []) zco_260 rfl rfl rfl rfl rfl rfl rfl rfl ?_
  refine g_istore_n (pc' := 7) (ls1 := [some (.ref 75), some (.int r2), none, none]) hc rfl (zlt rfl) rfl rfl ?_
  refine g_iload_n (pc' := 8)  hc rfl rfl rfl ?_
  refine g_iconst (pc' := 9) (v := (2 : Int32)) hc rfl zki_2 rfl ?_
  refine g_icmp_gt (pc' := 12) hc rfl rfl (fun hx => ?_) (fun hx => ?_)
  · replace h := zwp_t h hx
    replace h := zws h
    exact g_return hc rfl rfl (fun _ => ⟨rfl, rfl⟩) h
  · replace h := zwp_f h hx
    refine g_aload_n (pc' := 13)  hc rfl rfl rfl rfl ?_
    refine z_getI (pc' := 16) (v := (I 75 3)) hc rfl rfl rfl sh_75 rfl rfl rfl ?_
    refine g_if_ne (pc' := 19) hc rfl rfl (fun hx => ?_) (fun hx => ?_)
    · replace h := zwp_f h hx
      refine g_aload_n (pc' := 21)  hc rfl rfl rfl rfl ?_
      refine g_aload_n (pc' := 22)  hc rfl rfl rfl rfl ?_
      refine z_getI (pc' := 25) (v := (I 75 3)) hc rfl rfl rfl sh_75 rfl rfl rfl ?_
      refine z_virt (as := [.int (I 75 3)]) (a := 75) (r := []) hc rfl rfl rfl rfl sh_75 rfl zco_260 rfl rfl rfl ?_
      refine ok_X12_draw_75 (zdp hd rfl) (zwp_mono (zwp_bind h) ?_)
      rintro ⟨r4, o3⟩ h
      refine z_po (pc' := 28) (st' := [.int r4]) (v := (some (.int r4))) (L' := [(75, some 64, fun _ => o3), (91, none, (I 91))]) (K' := []) zco_260 rfl rfl rfl rfl rfl rfl rfl rfl ?_
      refine g_istore_n (pc' := 29) (ls1 := [some (.ref 75), some (.int r2), some (.int r4), none]) hc rfl (zlt rfl) rfl rfl ?_
      refine g_iload_n (pc' := 30)  hc rfl rfl rfl ?_
      refine g_if_ne (pc' := 33) hc rfl rfl (fun hx => ?_) (fun hx => ?_)
      · replace h := zwp_f h hx
        refine g_iload_n (pc' := 51)  hc rfl rfl rfl ?_
        refine g_iconst (pc' := 52) (v := (1 : Int32)) hc rfl zki_1 rfl ?_
        refine g_icmp_ne (pc' := 55) hc rfl rfl (fun hx => ?_) (fun hx => ?_)
        · replace h := zwp_f h hx
          refine g_aload_n (pc' := 107)  hc rfl rfl rfl rfl ?_
          refine z_getR (pc' := 110)  hc rfl rfl rfl sh_75 rfl rfl ?_
          refine g_bipush (pc' := 112) (v := (79 : Int32)) hc rfl zkb_79 rfl ?_
          refine g_iload_n (pc' := 113)  hc rfl rfl rfl ?_
          refine g_iadd (pc' := 114)  hc rfl rfl ?_
          refine g_iconst (pc' := 115) (v := (0 : Int32)) hc rfl zki_0 rfl ?_
          have hb := (zwp_bnd h).1
          replace h := (zwp_bnd h).2
          refine z_iastore (pc' := 116) (g := (I 91)) (L' := [(75, some 64, fun _ => o3), (91, none, (upd ((I 91)) ((79 : Int32) + r4).toNatClampNeg (0 : Int32)))]) hc rfl rfl sh_91 hb rfl rfl rfl rfl ?_
          replace h := zws h
          exact g_return hc rfl rfl (fun _ => ⟨rfl, rfl⟩) h
        · replace h := zwp_t h hx
          refine g_aload_n (pc' := 56)  hc rfl rfl rfl rfl ?_
          refine g_aload_n (pc' := 57)  hc rfl rfl rfl rfl ?_
          refine z_getI (pc' := 60) (v := (I 75 1)) hc rfl rfl rfl sh_75 rfl rfl rfl ?_
          refine g_aload_n (pc' := 61)  hc rfl rfl rfl rfl ?_
          refine z_getI (pc' := 64) (v := (I 75 2)) hc rfl rfl rfl sh_75 rfl rfl rfl ?_
          refine g_imul (pc' := 65)  hc rfl rfl ?_
          refine z_virt (as := [.int (((I 75 1)) * ((I 75 2)))]) (a := 75) (r := []) hc rfl rfl rfl rfl sh_75 rfl zco_260 rfl rfl rfl ?_
          refine ok_X12_draw_75 (zdp hd rfl) (zwp_mono (zwp_bind h) ?_)
          rintro ⟨r6, o5⟩ h
          refine z_po (pc' := 68) (st' := [.int r6]) (v := (some (.int r6))) (L' := [(75, some 64, fun _ => o5), (91, none, (I 91))]) (K' := []) zco_260 rfl rfl rfl rfl rfl rfl rfl rfl ?_
          refine g_istore_n (pc' := 69) (ls1 := [some (.ref 75), some (.int r2), some (.int r4), some (.int r6)]) hc rfl (zlt rfl) rfl rfl ?_
          refine g_aload_n (pc' := 70)  hc rfl rfl rfl rfl ?_
          refine z_getR (pc' := 73)  hc rfl rfl rfl sh_75 rfl rfl ?_
          refine g_bipush (pc' := 75) (v := (103 : Int32)) hc rfl zkb_103 rfl ?_
          refine g_iload_n (pc' := 76)  hc rfl rfl rfl ?_
          refine g_iadd (pc' := 77)  hc rfl rfl ?_
          have hb := (zwp_bnd h).1
          replace h := (zwp_bnd h).2
          refine z_iaload (pc' := 78) (v := (((I 91)) ((103 : Int32) + r6).toNatClampNeg)) hc rfl rfl sh_91 hb rfl rfl ?_
          refine g_iconst (pc' := 79) (v := (1 : Int32)) hc rfl zki_1 rfl ?_
          refine g_icmp_ne (pc' := 82) hc rfl rfl (fun hx => ?_) (fun hx => ?_)
          · replace h := zwp_f h hx
            refine g_aload_n (pc' := 84)  hc rfl rfl rfl rfl ?_
            refine z_getR (pc' := 87)  hc rfl rfl rfl sh_75 rfl rfl ?_
            refine g_bipush (pc' := 89) (v := (71 : Int32)) hc rfl zkb_71 rfl ?_
            refine g_iload_n (pc' := 90)  hc rfl rfl rfl ?_
            refine g_iadd (pc' := 91)  hc rfl rfl ?_
            refine g_iload_n (pc' := 92)  hc rfl rfl rfl ?_
            have hb := (zwp_bnd h).1
            replace h := (zwp_bnd h).2
            refine z_iastore (pc' := 93) (g := (I 91)) (L' := [(75, some 64, fun _ => o5), (91, none, (upd ((I 91)) ((71 : Int32) + r4).toNatClampNeg r6))]) hc rfl rfl sh_91 hb rfl rfl rfl rfl ?_
            refine g_aload_n (pc' := 94)  hc rfl rfl rfl rfl ?_
            refine z_getR (pc' := 97)  hc rfl rfl rfl sh_75 rfl rfl ?_
            refine g_bipush (pc' := 99) (v := (87 : Int32)) hc rfl zkb_87 rfl ?_
            refine g_iload_n (pc' := 100)  hc rfl rfl rfl ?_
            refine g_iadd (pc' := 101)  hc rfl rfl ?_
            refine g_iconst (pc' := 102) (v := (0 : Int32)) hc rfl zki_0 rfl ?_
            have hb := (zwp_bnd h).1
            replace h := (zwp_bnd h).2
            refine z_iastore (pc' := 103) (g := (upd ((I 91)) ((71 : Int32) + r4).toNatClampNeg r6)) (L' := [(75, some 64, fun _ => o5), (91, none, (upd (upd ((I 91)) ((71 : Int32) + r4).toNatClampNeg r6) ((87 : Int32) + r4).toNatClampNeg (0 : Int32)))]) hc rfl rfl sh_91 hb rfl rfl rfl rfl ?_
            refine g_goto hc rfl ?_
            replace h := zws h
            exact g_return hc rfl rfl (fun _ => ⟨rfl, rfl⟩) h
          · replace h := zwp_t h hx
            replace h := zws h
            exact g_return hc rfl rfl (fun _ => ⟨rfl, rfl⟩) h
      · replace h := zwp_t h hx
        refine g_aload_n (pc' := 34)  hc rfl rfl rfl rfl ?_
        refine z_getR (pc' := 37)  hc rfl rfl rfl sh_75 rfl rfl ?_
        refine g_bipush (pc' := 39) (v := (87 : Int32)) hc rfl zkb_87 rfl ?_
        refine g_iload_n (pc' := 40)  hc rfl rfl rfl ?_
        refine g_iadd (pc' := 41)  hc rfl rfl ?_
        refine g_aload_n (pc' := 42)  hc rfl rfl rfl rfl ?_
        refine g_iconst (pc' := 43) (v := (4 : Int32)) hc rfl zki_4 rfl ?_
        refine z_virt (as := [.int (4 : Int32)]) (a := 75) (r := [.int ((87 : Int32) + r4), .ref 91]) hc rfl rfl rfl rfl sh_75 rfl zco_260 rfl rfl rfl ?_
        refine ok_X12_draw_75 (zdp hd rfl) (zwp_mono (zwp_bind h) ?_)
        rintro ⟨r8, o7⟩ h
        refine z_po (pc' := 46) (st' := [.int r8, .int ((87 : Int32) + r4), .ref 91]) (v := (some (.int r8))) (L' := [(75, some 64, fun _ => o7), (91, none, (I 91))]) (K' := []) zco_260 rfl rfl rfl rfl rfl rfl rfl rfl ?_
        have hb := (zwp_bnd h).1
        replace h := (zwp_bnd h).2
        refine z_iastore (pc' := 47) (g := (I 91)) (L' := [(75, some 64, fun _ => o7), (91, none, (upd ((I 91)) ((87 : Int32) + r4).toNatClampNeg r8))]) hc rfl rfl sh_91 hb rfl rfl rfl rfl ?_
        refine g_goto hc rfl ?_
        replace h := zws h
        exact g_return hc rfl rfl (fun _ => ⟨rfl, rfl⟩) h
    · replace h := zwp_t h hx
      replace h := zws h
      exact g_return hc rfl rfl (fun _ => ⟨rfl, rfl⟩) h
set_option maxRecDepth 4000 in
theorem ok_X12_years_75 {p q : Nat} {I : pI} {J : pJ} {a1 : Int32} {a2 : Int32} {a3 : Int32} {Q : pQ} {d : Nat} (hd : 7 ≤ d) (h : zwp (f_X12_years a1 a2 a3 (I 80) (I 75 6) (I 75 53) (I 75 3) (I 75 7) (I 75 8) (I 75 64) (I 79) (I 75 5) (I 94) (I 91) (I 75 2) (I 75 0) (I 93) (I 76) (I 77) (I 75 1)) (fun w => match w with | (r, o0, o1, o2, o3, o4) => Q (.inl (some (.int r))) (zS p q I [(75, some 0, fun _ => o3), (75, some 64, fun _ => o0), (91, none, o2), (93, none, o4), (94, none, o1)] J []))) : pm_call M cost zext d 262 [.ref 75, .int a1, .int a2, .int a3] (pm_st 108 (shp p q) I J) Q := by
  obtain ⟨d, rfl⟩ := zd1 hd rfl
  have hc := pm_call_m (M := M) (cost := cost) zext_m d
  refine z_in (L := [(75, some 0, fun _ => (I 75 0)), (75, some 64, fun _ => (I 75 64)), (91, none, (I 91)), (93, none, (I 93)), (94, none, (I 94))]) (K := []) (ls := [some (.ref 75), some (.int a1), some (.int a2), some (.int a3), none, none, none, none]) zmt_262 zco_262 rfl rfl (zid_s (zid_s (zid_a (zid_a (zid_a zid_n))))) zid_n ?_
  delta f_X12_years at h
  refine g_aload_n (pc' := 1)  hc rfl rfl rfl rfl ?_
  refine g_iconst (pc' := 2) (v := (0 : Int32)) hc rfl zki_0 rfl ?_
  refine z_putI (pc' := 5) (L' := [(75, some 0, fun _ => (0 : Int32)), (75, some 64, fun _ => (I 75 64)), (91, none, (I 91)), (93, none, (I 93)), (94, none, (I 94))]) hc rfl rfl rfl sh_75 rfl zft_12_0 rfl (fun h => Bool.noConfusion h) rfl rfl rfl ?_
  refine g_aload_n (pc' := 6)  hc rfl rfl rfl rfl ?_
  refine g_iload_n (pc' := 7)  hc rfl rfl rfl ?_
  refine g_iconst (pc' := 8) (v := (2 : Int32)) hc rfl zki_2 rfl ?_
  refine z_virt (as := [.int a3, .int (2 : Int32)]) (a := 75) (r := []) hc rfl rfl rfl rfl sh_75 rfl zco_218 rfl rfl rfl ?_
  refine ok_X12_isWhat_75 (zdp hd rfl) (zwp_mono (zwp_bind h) ?_)
  rintro ⟨r2, o1⟩ h
  refine z_po (pc' := 11) (st' := [.int r2]) (v := (some (.int r2))) (L' := [(75, some 0, fun _ => o1), (75, some 64, fun _ => (I 75 64)), (91, none, (I 91)), (93, none, (I 93)), (94, none, (I 94))]) (K' := []) zco_218 rfl rfl rfl rfl rfl rfl rfl rfl ?_
  refine g_if_eq (pc' := 14) hc rfl rfl (fun hx => ?_) (fun hx => ?_)
  · replace h := zwp_t h hx
    refine g_iconst (pc' := 25) (v := (0 : Int32)) hc rfl zki_0 rfl ?_
    replace h := zws h
    exact g_ireturn hc rfl rfl rfl (fun _ => ⟨rfl, rfl⟩) h
  · replace h := zwp_f h hx
    refine g_aload_n (pc' := 15)  hc rfl rfl rfl rfl ?_
    refine g_iload_n (pc' := 16)  hc rfl rfl rfl ?_
    refine g_iconst (pc' := 17) (v := (0 : Int32)) hc rfl zki_0 rfl ?_
    refine g_iconst (pc' := 18) (v := (2 : Int32)) hc rfl zki_2 rfl ?_
    refine z_virt (as := [.int a2, .int (0 : Int32), .int (2 : Int32)]) (a := 75) (r := []) hc rfl rfl rfl rfl sh_75 rfl zco_219 rfl rfl rfl ?_
    refine ok_X12_isSoon_75 (zdp hd rfl) (zwp_mono (zwp_bind h) ?_)
    rintro ⟨r4, o3⟩ h
    refine z_po (pc' := 21) (st' := [.int r4]) (v := (some (.int r4))) (L' := [(75, some 0, fun _ => o3), (75, some 64, fun _ => (I 75 64)), (91, none, (I 91)), (93, none, (I 93)), (94, none, (I 94))]) (K' := []) zco_219 rfl rfl rfl rfl rfl rfl rfl rfl ?_
    refine g_if_ne (pc' := 24) hc rfl rfl (fun hx => ?_) (fun hx => ?_)
    · replace h := zwp_f h hx
      refine g_aload_n (pc' := 27)  hc rfl rfl rfl rfl ?_
      refine z_virt (as := []) (a := 75) (r := []) hc rfl rfl rfl rfl sh_75 rfl zco_196 rfl rfl rfl ?_
      refine ok_X12_tries_75 (zdp hd rfl) (zwp_mono (zwp_bind h) ?_)
      rintro o5 h
      refine z_po (pc' := 30) (st' := []) (v := none) (L' := [(75, some 0, fun _ => o3), (75, some 64, fun _ => (I 75 64)), (91, none, o5), (93, none, (I 93)), (94, none, (I 94))]) (K' := []) zco_196 rfl rfl rfl rfl rfl rfl rfl rfl ?_
      refine g_aload_n (pc' := 31)  hc rfl rfl rfl rfl ?_
      refine g_iload_n (pc' := 32)  hc rfl rfl rfl ?_
      refine z_putI (pc' := 35) (L' := [(75, some 0, fun _ => o3), (75, some 64, fun _ => a1), (91, none, o5), (93, none, (I 93)), (94, none, (I 94))]) hc rfl rfl rfl sh_75 rfl zft_12_64 rfl (fun h => Bool.noConfusion h) rfl rfl rfl ?_
      refine g_iconst (pc' := 36) (v := (0 : Int32)) hc rfl zki_0 rfl ?_
      refine g_istore (pc' := 38) (ls1 := [some (.ref 75), some (.int a1), some (.int a2), some (.int a3), some (.int (0 : Int32)), none, none, none]) hc rfl (zlt rfl) rfl rfl ?_
      refine g_iconst (pc' := 39) (v := (0 : Int32)) hc rfl zki_0 rfl ?_
      refine g_istore (pc' := 41) (ls1 := [some (.ref 75), some (.int a1), some (.int a2), some (.int a3), some (.int (0 : Int32)), some (.int (0 : Int32)), none, none]) hc rfl (zlt rfl) rfl rfl ?_
      refine zjn (G := (fun (g : Int32 × Int32 × (Nat → Int32) × (Nat → Int32) × (Nat → Int32)) => match g with | (y14, y18, y19, y20, y21) => ∀ z15 : Option Value, znl z15 = true → ∀ z16 : Option Value, znl z16 = true → ∀ z17 : Option Value, znl z17 = true → pm_ev C_X12_years (d + 1) (pm_call M cost zext d) cost (false, false) 108 0 0 Q 127 [some (.ref 75), some (.int a1), some (.int a2), some (.int a3), some (.int y14), z15, z16, z17] [] 0 0 (zS p q I [(75, some 0, fun _ => o3), (75, some 64, fun _ => y18), (91, none, y20), (93, none, y21), (94, none, y19)] J []))) (zwp_bind h) ?_ (fun h => ?_)
      · rintro ⟨y14, y18, y19, y20, y21⟩ h z15 hz15 z16 hz16 z17 hz17
        refine g_iconst (pc' := 128) (v := (0 : Int32)) hc rfl zki_0 rfl ?_
        refine g_istore (pc' := 130) (ls1 := [some (.ref 75), some (.int a1), some (.int a2), some (.int a3), some (.int y14), some (.int (0 : Int32)), z16, z17]) hc rfl (zlt rfl) rfl rfl ?_
        refine g_iconst (pc' := 131) (v := (0 : Int32)) hc rfl zki_0 rfl ?_
        refine g_istore (pc' := 133) (ls1 := [some (.ref 75), some (.int a1), some (.int a2), some (.int a3), some (.int y14), some (.int (0 : Int32)), some (.int (0 : Int32)), z17]) hc rfl (zlt rfl) rfl rfl ?_
        refine zjn (G := (fun (y24 : Int32) => ∀ z25 : Option Value, znl z25 = true → pm_ev C_X12_years (d + 1) (pm_call M cost zext d) cost (false, false) 108 0 0 Q 167 [some (.ref 75), some (.int a1), some (.int a2), some (.int a3), some (.int y14), some (.int y24), z25, z17] [] 0 0 (zS p q I [(75, some 0, fun _ => o3), (75, some 64, fun _ => y18), (91, none, y20), (93, none, y21), (94, none, y19)] J []))) (zwp_bind h) ?_ (fun h => ?_)
        · rintro y24 h z25 hz25
          refine g_iload_n (pc' := 168)  hc rfl rfl rfl ?_
          refine g_if_ne (pc' := 171) hc rfl rfl (fun hx => ?_) (fun hx => ?_)
          · replace h := zwp_f h hx
            refine g_iload_n (pc' := 177)  hc rfl rfl rfl ?_
            refine g_iconst (pc' := 178) (v := (1 : Int32)) hc rfl zki_1 rfl ?_
            refine g_icmp_ne (pc' := 181) hc rfl rfl (fun hx => ?_) (fun hx => ?_)
            · replace h := zwp_f h hx
              refine g_iload (pc' := 198)  hc rfl rfl rfl ?_
              replace h := zws h
              exact g_ireturn hc rfl rfl rfl (fun _ => ⟨rfl, rfl⟩) h
            · replace h := zwp_t h hx
              refine g_aload_n (pc' := 182)  hc rfl rfl rfl rfl ?_
              refine g_bipush (pc' := 184) (v := (70 : Int32)) hc rfl zkb_70 rfl ?_
              refine g_bipush (pc' := 186) (v := (9 : Int32)) hc rfl zkb_9 rfl ?_
              refine g_aload_n (pc' := 187)  hc rfl rfl rfl rfl ?_
              refine z_getI (pc' := 190) (v := (I 75 3)) hc rfl rfl rfl sh_75 rfl rfl rfl ?_
              refine z_virt (as := [.int (70 : Int32), .int (9 : Int32), .int (I 75 3)]) (a := 75) (r := []) hc rfl rfl rfl rfl sh_75 rfl zco_211 rfl rfl rfl ?_
              refine ok_X12_sumOf_75 (zdp hd rfl) (zwp_mono (zwp_bind h) ?_)
              rintro r26 h
              refine z_po (pc' := 193) (st' := [.int r26]) (v := (some (.int r26))) (L' := [(75, some 0, fun _ => o3), (75, some 64, fun _ => y18), (91, none, y20), (93, none, y21), (94, none, y19)]) (K' := []) zco_211 rfl rfl rfl rfl rfl rfl rfl rfl ?_
              refine g_goto hc rfl ?_
              replace h := zws h
              exact g_ireturn hc rfl rfl rfl (fun _ => ⟨rfl, rfl⟩) h
          · replace h := zwp_t h hx
            refine g_iload (pc' := 173)  hc rfl rfl rfl ?_
            refine g_goto hc rfl ?_
            replace h := zws h
            exact g_ireturn hc rfl rfl rfl (fun _ => ⟨rfl, rfl⟩) h
        refine zitr_ev (G := (fun (g : Int32 × Int32) => match g with | (x22, x23) => pm_ev C_X12_years (d + 1) (pm_call M cost zext d) cost (false, false) 108 0 0 Q 133 [some (.ref 75), some (.int a1), some (.int a2), some (.int a3), some (.int y14), some (.int x22), some (.int x23), z17] [] 0 0 (zS p q I [(75, some 0, fun _ => o3), (75, some 64, fun _ => y18), (91, none, y20), (93, none, y21), (94, none, y19)] J []))) ?_ zFU ((0 : Int32), (0 : Int32)) h
        rintro ⟨x22, x23⟩ h
        refine g_iload (pc' := 135)  hc rfl rfl rfl ?_
        refine g_bipush (pc' := 137) (v := (36 : Int32)) hc rfl zkb_36 rfl ?_
        refine g_icmp_ge (pc' := 140) hc rfl rfl (fun hx => ?_) (fun hx => ?_)
        · replace h := zwp_t h hx
          replace h := zwp_r h
          exact h (some (.int x23)) rfl
        · replace h := zwp_f h hx
          refine g_iload (pc' := 142)  hc rfl rfl rfl ?_
          refine g_aload_n (pc' := 143)  hc rfl rfl rfl rfl ?_
          refine g_bipush (pc' := 145) (v := (70 : Int32)) hc rfl zkb_70 rfl ?_
          refine g_iload (pc' := 147)  hc rfl rfl rfl ?_
          refine z_virt (as := [.int (70 : Int32), .int x23]) (a := 75) (r := [.int x22]) hc rfl rfl rfl rfl sh_75 rfl zco_201 rfl rfl rfl ?_
          refine ok_X12_atCell_75 (zdp hd rfl) (zwp_mono (zwp_bind h) ?_)
          rintro r27 h
          refine z_po (pc' := 150) (st' := [.int r27, .int x22]) (v := (some (.int r27))) (L' := [(75, some 0, fun _ => o3), (75, some 64, fun _ => y18), (91, none, y20), (93, none, y21), (94, none, y19)]) (K' := []) zco_201 rfl rfl rfl rfl rfl rfl rfl rfl ?_
          refine zjn (G := (fun (j28 : Int32) => pm_ev C_X12_years (d + 1) (pm_call M cost zext d) cost (false, false) 108 0 0 Q 158 [some (.ref 75), some (.int a1), some (.int a2), some (.int a3), some (.int y14), some (.int x22), some (.int x23), z17] [.int j28, .int x22] 0 0 (zS p q I [(75, some 0, fun _ => o3), (75, some 64, fun _ => y18), (91, none, y20), (93, none, y21), (94, none, y19)] J []))) (zwp_bind h) ?_ (fun h => ?_)
          · rintro j28 h
            refine g_iadd (pc' := 159)  hc rfl rfl ?_
            refine g_istore (pc' := 161) (ls1 := [some (.ref 75), some (.int a1), some (.int a2), some (.int a3), some (.int y14), some (.int (x22 + j28)), some (.int x23), z17]) hc rfl (zlt rfl) rfl rfl ?_
            refine g_iinc (pc' := 164) (ls1 := [some (.ref 75), some (.int a1), some (.int a2), some (.int a3), some (.int y14), some (.int (x22 + j28)), some (.int (x23 + (1 : Int32))), z17]) hc rfl rfl zki_1 (zlt rfl) rfl rfl ?_
            refine g_goto hc rfl ?_
            replace h := zwp_l h
            exact h
          refine g_if_eq (pc' := 153) hc rfl rfl (fun hx => ?_) (fun hx => ?_)
          · replace h := zwp_t h hx
            refine g_iconst (pc' := 158) (v := (0 : Int32)) hc rfl zki_0 rfl ?_
            replace h := zws h
            exact h
          · replace h := zwp_f h hx
            refine g_iconst (pc' := 154) (v := (1 : Int32)) hc rfl zki_1 rfl ?_
            refine g_goto hc rfl ?_
            replace h := zws h
            exact h
      refine zitr_ev (G := (fun (g : Int32 × Int32 × Int32 × (Nat → Int32) × (Nat → Int32) × (Nat → Int32)) => match g with | (x6, x7, x10, x11, x12, x13) => ∀ z8 : Option Value, znl z8 = true → ∀ z9 : Option Value, znl z9 = true → pm_ev C_X12_years (d + 1) (pm_call M cost zext d) cost (false, false) 108 0 0 Q 41 [some (.ref 75), some (.int a1), some (.int a2), some (.int a3), some (.int x6), some (.int x7), z8, z9] [] 0 0 (zS p q I [(75, some 0, fun _ => o3), (75, some 64, fun _ => x10), (91, none, x12), (93, none, x13), (94, none, x11)] J []))) ?_ zFU ((0 : Int32), (0 : Int32), a1, (I 94), o5, (I 93)) h none rfl none rfl
      rintro ⟨x6, x7, x10, x11, x12, x13⟩ h z8 hz8 z9 hz9
      refine g_iload (pc' := 43)  hc rfl rfl rfl ?_
      refine g_iload_n (pc' := 44)  hc rfl rfl rfl ?_
      refine g_icmp_ge (pc' := 47) hc rfl rfl (fun hx => ?_) (fun hx => ?_)
      · replace h := zwp_t h hx
        replace h := zwp_r h
        exact h (some (.int x7)) rfl z8 hz8 z9 hz9
      · replace h := zwp_f h hx
        refine g_aload_n (pc' := 48)  hc rfl rfl rfl rfl ?_
        refine z_virt (as := []) (a := 75) (r := []) hc rfl rfl rfl rfl sh_75 rfl zco_261 rfl rfl rfl ?_
        refine ok_X12_happens_75 (zdp hd rfl) (zwp_mono (zwp_bind h) ?_)
        rintro ⟨o29, o30⟩ h
        refine z_po (pc' := 51) (st' := []) (v := none) (L' := [(75, some 0, fun _ => o3), (75, some 64, fun _ => o29), (91, none, o30), (93, none, x13), (94, none, x11)]) (K' := []) zco_261 rfl rfl rfl rfl rfl rfl rfl rfl ?_
        refine g_aload_n (pc' := 52)  hc rfl rfl rfl rfl ?_
        refine g_bipush (pc' := 54) (v := (70 : Int32)) hc rfl zkb_70 rfl ?_
        refine z_virt (as := [.int (70 : Int32)]) (a := 75) (r := []) hc rfl rfl rfl rfl sh_75 rfl zco_209 rfl rfl rfl ?_
        refine ok_X12_hourGoes_75 (zdp hd rfl) (zwp_mono (zwp_bind h) ?_)
        rintro ⟨o31, o32, o33⟩ h
        refine z_po (pc' := 57) (st' := []) (v := none) (L' := [(75, some 0, fun _ => o3), (75, some 64, fun _ => o29), (91, none, o32), (93, none, o33), (94, none, o31)]) (K' := []) zco_209 rfl rfl rfl rfl rfl rfl rfl rfl ?_
        refine g_iconst (pc' := 58) (v := (0 : Int32)) hc rfl zki_0 rfl ?_
        refine g_istore (pc' := 60) (ls1 := [some (.ref 75), some (.int a1), some (.int a2), some (.int a3), some (.int x6), some (.int x7), some (.int (0 : Int32)), z9]) hc rfl (zlt rfl) rfl rfl ?_
        refine g_iconst (pc' := 61) (v := (0 : Int32)) hc rfl zki_0 rfl ?_
        refine g_istore (pc' := 63) (ls1 := [some (.ref 75), some (.int a1), some (.int a2), some (.int a3), some (.int x6), some (.int x7), some (.int (0 : Int32)), some (.int (0 : Int32))]) hc rfl (zlt rfl) rfl rfl ?_
        refine zjn (G := (fun (y36 : Int32) => ∀ z37 : Option Value, znl z37 = true → pm_ev C_X12_years (d + 1) (pm_call M cost zext d) cost (false, false) 108 0 0 Q 106 [some (.ref 75), some (.int a1), some (.int a2), some (.int a3), some (.int x6), some (.int x7), some (.int y36), z37] [] 0 0 (zS p q I [(75, some 0, fun _ => o3), (75, some 64, fun _ => o29), (91, none, o32), (93, none, o33), (94, none, o31)] J []))) (zwp_bind h) ?_ (fun h => ?_)
        · rintro y36 h z37 hz37
          refine g_iload (pc' := 108)  hc rfl rfl rfl ?_
          refine g_iload (pc' := 110)  hc rfl rfl rfl ?_
          refine zjn (G := (fun (j38 : Int32) => pm_ev C_X12_years (d + 1) (pm_call M cost zext d) cost (false, false) 108 0 0 Q 118 [some (.ref 75), some (.int a1), some (.int a2), some (.int a3), some (.int x6), some (.int x7), some (.int y36), z37] [.int j38, .int x6] 0 0 (zS p q I [(75, some 0, fun _ => o3), (75, some 64, fun _ => o29), (91, none, o32), (93, none, o33), (94, none, o31)] J []))) (zwp_bind h) ?_ (fun h => ?_)
          · rintro j38 h
            refine g_iadd (pc' := 119)  hc rfl rfl ?_
            refine g_istore (pc' := 121) (ls1 := [some (.ref 75), some (.int a1), some (.int a2), some (.int a3), some (.int (x6 + j38)), some (.int x7), some (.int y36), z37]) hc rfl (zlt rfl) rfl rfl ?_
            refine g_iinc (pc' := 124) (ls1 := [some (.ref 75), some (.int a1), some (.int a2), some (.int a3), some (.int (x6 + j38)), some (.int (x7 + (1 : Int32))), some (.int y36), z37]) hc rfl rfl zki_1 (zlt rfl) rfl rfl ?_
            refine g_goto hc rfl ?_
            replace h := zwp_l h
            exact h (some (.int y36)) rfl z37 hz37
          refine g_if_le (pc' := 113) hc rfl rfl (fun hx => ?_) (fun hx => ?_)
          · replace h := zwp_t h hx
            refine g_iconst (pc' := 118) (v := (0 : Int32)) hc rfl zki_0 rfl ?_
            replace h := zws h
            exact h
          · replace h := zwp_f h hx
            refine g_iconst (pc' := 114) (v := (1 : Int32)) hc rfl zki_1 rfl ?_
            refine g_goto hc rfl ?_
            replace h := zws h
            exact h
        refine zitr_ev (G := (fun (g : Int32 × Int32) => match g with | (x34, x35) => pm_ev C_X12_years (d + 1) (pm_call M cost zext d) cost (false, false) 108 0 0 Q 63 [some (.ref 75), some (.int a1), some (.int a2), some (.int a3), some (.int x6), some (.int x7), some (.int x34), some (.int x35)] [] 0 0 (zS p q I [(75, some 0, fun _ => o3), (75, some 64, fun _ => o29), (91, none, o32), (93, none, o33), (94, none, o31)] J []))) ?_ zFU ((0 : Int32), (0 : Int32)) h
        rintro ⟨x34, x35⟩ h
        refine g_iload (pc' := 65)  hc rfl rfl rfl ?_
        refine g_aload_n (pc' := 66)  hc rfl rfl rfl rfl ?_
        refine z_getI (pc' := 69) (v := (I 75 3)) hc rfl rfl rfl sh_75 rfl rfl rfl ?_
        refine g_icmp_ge (pc' := 72) hc rfl rfl (fun hx => ?_) (fun hx => ?_)
        · replace h := zwp_t h hx
          replace h := zwp_r h
          exact h (some (.int x35)) rfl
        · replace h := zwp_f h hx
          refine g_aload_n (pc' := 73)  hc rfl rfl rfl rfl ?_
          refine g_bipush (pc' := 75) (v := (70 : Int32)) hc rfl zkb_70 rfl ?_
          refine g_iload (pc' := 77)  hc rfl rfl rfl ?_
          refine z_virt (as := [.int (70 : Int32), .int x35]) (a := 75) (r := []) hc rfl rfl rfl rfl sh_75 rfl zco_202 rfl rfl rfl ?_
          refine ok_X12_withIt_75 (zdp hd rfl) (zwp_mono (zwp_bind h) ?_)
          rintro r39 h
          refine z_po (pc' := 80) (st' := [.int r39]) (v := (some (.int r39))) (L' := [(75, some 0, fun _ => o3), (75, some 64, fun _ => o29), (91, none, o32), (93, none, o33), (94, none, o31)]) (K' := []) zco_202 rfl rfl rfl rfl rfl rfl rfl rfl ?_
          refine g_iload (pc' := 82)  hc rfl rfl rfl ?_
          refine zjn (G := (fun (j40 : Int32) => pm_ev C_X12_years (d + 1) (pm_call M cost zext d) cost (false, false) 108 0 0 Q 98 [some (.ref 75), some (.int a1), some (.int a2), some (.int a3), some (.int x6), some (.int x7), some (.int x34), some (.int x35)] [.int j40] 0 0 (zS p q I [(75, some 0, fun _ => o3), (75, some 64, fun _ => o29), (91, none, o32), (93, none, o33), (94, none, o31)] J []))) (zwp_bind h) ?_ (fun h => ?_)
          · rintro j40 h
            refine g_istore (pc' := 100) (ls1 := [some (.ref 75), some (.int a1), some (.int a2), some (.int a3), some (.int x6), some (.int x7), some (.int j40), some (.int x35)]) hc rfl (zlt rfl) rfl rfl ?_
            refine g_iinc (pc' := 103) (ls1 := [some (.ref 75), some (.int a1), some (.int a2), some (.int a3), some (.int x6), some (.int x7), some (.int j40), some (.int (x35 + (1 : Int32)))]) hc rfl rfl zki_1 (zlt rfl) rfl rfl ?_
            refine g_goto hc rfl ?_
            replace h := zwp_l h
            exact h
          refine g_icmp_le (pc' := 85) hc rfl rfl (fun hx => ?_) (fun hx => ?_)
          · replace h := zwp_t h hx
            refine g_iload (pc' := 98)  hc rfl rfl rfl ?_
            replace h := zws h
            exact h
          · replace h := zwp_f h hx
            refine g_aload_n (pc' := 86)  hc rfl rfl rfl rfl ?_
            refine g_bipush (pc' := 88) (v := (70 : Int32)) hc rfl zkb_70 rfl ?_
            refine g_iload (pc' := 90)  hc rfl rfl rfl ?_
            refine z_virt (as := [.int (70 : Int32), .int x35]) (a := 75) (r := []) hc rfl rfl rfl rfl sh_75 rfl zco_202 rfl rfl rfl ?_
            refine ok_X12_withIt_75 (zdp hd rfl) (zwp_mono (zwp_bind h) ?_)
            rintro r41 h
            refine z_po (pc' := 93) (st' := [.int r41]) (v := (some (.int r41))) (L' := [(75, some 0, fun _ => o3), (75, some 64, fun _ => o29), (91, none, o32), (93, none, o33), (94, none, o31)]) (K' := []) zco_202 rfl rfl rfl rfl rfl rfl rfl rfl ?_
            refine g_goto hc rfl ?_
            replace h := zws h
            exact h
    · replace h := zwp_t h hx
      refine g_iconst (pc' := 25) (v := (0 : Int32)) hc rfl zki_0 rfl ?_
      replace h := zws h
      exact g_ireturn hc rfl rfl rfl (fun _ => ⟨rfl, rfl⟩) h
set_option maxRecDepth 4000 in
theorem ok_X12_copies_75_92_105 {p q : Nat} {I : pI} {J : pJ} {Q : pQ} {d : Nat} (hd : 1 ≤ d) (h : zwp (f_X12_copies 2800 2800 (I 92) (I 105)) (fun o0 => Q (.inl none) (zS p q I [(105, none, o0)] J []))) : pm_call M cost zext d 157 [.ref 75, .ref 92, .ref 105] (pm_st 108 (shp p q) I J) Q := by
  obtain ⟨d, rfl⟩ := zd1 hd rfl
  have hc := pm_call_m (M := M) (cost := cost) zext_m d
  refine z_in (L := [(105, none, (I 105))]) (K := []) (ls := [some (.ref 75), some (.ref 92), some (.ref 105), none]) zmt_157 zco_157 rfl rfl (zid_a zid_n) zid_n ?_
  delta f_X12_copies at h
  refine g_iconst (pc' := 1) (v := (0 : Int32)) hc rfl zki_0 rfl ?_
  refine g_istore_n (pc' := 2) (ls1 := [some (.ref 75), some (.ref 92), some (.ref 105), some (.int (0 : Int32))]) hc rfl (zlt rfl) rfl rfl ?_
  refine zjn (G := (fun (y4 : (Nat → Int32)) => ∀ z3 : Option Value, znl z3 = true → pm_ev C_X12_copies (d + 1) (pm_call M cost zext d) cost (false, false) 108 0 0 Q 20 [some (.ref 75), some (.ref 92), some (.ref 105), z3] [] 0 0 (zS p q I [(105, none, y4)] J []))) (zwp_bind h) ?_ (fun h => ?_)
  · rintro y4 h z3 hz3
    replace h := zws h
    exact g_return hc rfl rfl (fun _ => ⟨rfl, rfl⟩) h
  refine zitr_ev (G := (fun (g : Int32 × (Nat → Int32)) => match g with | (x1, x2) => pm_ev C_X12_copies (d + 1) (pm_call M cost zext d) cost (false, false) 108 0 0 Q 2 [some (.ref 75), some (.ref 92), some (.ref 105), some (.int x1)] [] 0 0 (zS p q I [(105, none, x2)] J []))) ?_ zFU ((0 : Int32), (I 105)) h
  rintro ⟨x1, x2⟩ h
  refine g_iload_n (pc' := 3)  hc rfl rfl rfl ?_
  refine g_aload_n (pc' := 4)  hc rfl rfl rfl rfl ?_
  refine z_alen (pc' := 5) (v := (Int32.ofNat 2800)) hc rfl rfl sh_92 ⟨by decide, by decide⟩ rfl rfl ?_
  refine g_icmp_ge (pc' := 8) hc rfl rfl (fun hx => ?_) (fun hx => ?_)
  · replace h := zwp_t h hx
    replace h := zwp_r h
    exact h (some (.int x1)) rfl
  · replace h := zwp_f h hx
    refine g_aload_n (pc' := 9)  hc rfl rfl rfl rfl ?_
    refine g_iload_n (pc' := 10)  hc rfl rfl rfl ?_
    refine g_aload_n (pc' := 11)  hc rfl rfl rfl rfl ?_
    refine g_iload_n (pc' := 12)  hc rfl rfl rfl ?_
    have hb := (zwp_bnd h).1
    replace h := (zwp_bnd h).2
    refine z_iaload (pc' := 13) (v := (((I 92)) x1.toNatClampNeg)) hc rfl rfl sh_92 hb rfl rfl ?_
    have hb := (zwp_bnd h).1
    replace h := (zwp_bnd h).2
    refine z_iastore (pc' := 14) (g := x2) (L' := [(105, none, (upd x2 x1.toNatClampNeg (((I 92)) x1.toNatClampNeg)))]) hc rfl rfl sh_105 hb rfl rfl rfl rfl ?_
    refine g_iinc (pc' := 17) (ls1 := [some (.ref 75), some (.ref 92), some (.ref 105), some (.int (x1 + (1 : Int32)))]) hc rfl rfl zki_1 (zlt rfl) rfl rfl ?_
    refine g_goto hc rfl ?_
    replace h := zwp_l h
    exact h
set_option maxRecDepth 4000 in
theorem ok_X12_copies_75_101_106 {p q : Nat} {I : pI} {J : pJ} {Q : pQ} {d : Nat} (hd : 1 ≤ d) (h : zwp (f_X12_copies 24 24 (I 101) (I 106)) (fun o0 => Q (.inl none) (zS p q I [(106, none, o0)] J []))) : pm_call M cost zext d 157 [.ref 75, .ref 101, .ref 106] (pm_st 108 (shp p q) I J) Q := by
  obtain ⟨d, rfl⟩ := zd1 hd rfl
  have hc := pm_call_m (M := M) (cost := cost) zext_m d
  refine z_in (L := [(106, none, (I 106))]) (K := []) (ls := [some (.ref 75), some (.ref 101), some (.ref 106), none]) zmt_157 zco_157 rfl rfl (zid_a zid_n) zid_n ?_
  delta f_X12_copies at h
  refine g_iconst (pc' := 1) (v := (0 : Int32)) hc rfl zki_0 rfl ?_
  refine g_istore_n (pc' := 2) (ls1 := [some (.ref 75), some (.ref 101), some (.ref 106), some (.int (0 : Int32))]) hc rfl (zlt rfl) rfl rfl ?_
  refine zjn (G := (fun (y4 : (Nat → Int32)) => ∀ z3 : Option Value, znl z3 = true → pm_ev C_X12_copies (d + 1) (pm_call M cost zext d) cost (false, false) 108 0 0 Q 20 [some (.ref 75), some (.ref 101), some (.ref 106), z3] [] 0 0 (zS p q I [(106, none, y4)] J []))) (zwp_bind h) ?_ (fun h => ?_)
  · rintro y4 h z3 hz3
    replace h := zws h
    exact g_return hc rfl rfl (fun _ => ⟨rfl, rfl⟩) h
  refine zitr_ev (G := (fun (g : Int32 × (Nat → Int32)) => match g with | (x1, x2) => pm_ev C_X12_copies (d + 1) (pm_call M cost zext d) cost (false, false) 108 0 0 Q 2 [some (.ref 75), some (.ref 101), some (.ref 106), some (.int x1)] [] 0 0 (zS p q I [(106, none, x2)] J []))) ?_ zFU ((0 : Int32), (I 106)) h
  rintro ⟨x1, x2⟩ h
  refine g_iload_n (pc' := 3)  hc rfl rfl rfl ?_
  refine g_aload_n (pc' := 4)  hc rfl rfl rfl rfl ?_
  refine z_alen (pc' := 5) (v := (Int32.ofNat 24)) hc rfl rfl sh_101 ⟨by decide, by decide⟩ rfl rfl ?_
  refine g_icmp_ge (pc' := 8) hc rfl rfl (fun hx => ?_) (fun hx => ?_)
  · replace h := zwp_t h hx
    replace h := zwp_r h
    exact h (some (.int x1)) rfl
  · replace h := zwp_f h hx
    refine g_aload_n (pc' := 9)  hc rfl rfl rfl rfl ?_
    refine g_iload_n (pc' := 10)  hc rfl rfl rfl ?_
    refine g_aload_n (pc' := 11)  hc rfl rfl rfl rfl ?_
    refine g_iload_n (pc' := 12)  hc rfl rfl rfl ?_
    have hb := (zwp_bnd h).1
    replace h := (zwp_bnd h).2
    refine z_iaload (pc' := 13) (v := (((I 101)) x1.toNatClampNeg)) hc rfl rfl sh_101 hb rfl rfl ?_
    have hb := (zwp_bnd h).1
    replace h := (zwp_bnd h).2
    refine z_iastore (pc' := 14) (g := x2) (L' := [(106, none, (upd x2 x1.toNatClampNeg (((I 101)) x1.toNatClampNeg)))]) hc rfl rfl sh_106 hb rfl rfl rfl rfl ?_
    refine g_iinc (pc' := 17) (ls1 := [some (.ref 75), some (.ref 101), some (.ref 106), some (.int (x1 + (1 : Int32)))]) hc rfl rfl zki_1 (zlt rfl) rfl rfl ?_
    refine g_goto hc rfl ?_
    replace h := zwp_l h
    exact h
set_option maxRecDepth 4000 in
theorem ok_X12_image_75 {p q : Nat} {I : pI} {J : pJ} {Q : pQ} {d : Nat} (hd : 2 ≤ d) (h : zwp (f_X12_image (I 75 50) (I 75 65) (I 75 66) (I 105) (I 75 67) (I 106) (I 104) (I 92) (I 101) (I 75 60) (I 91) (I 75 0)) (fun w => match w with | (o0, o1, o2, o3, o4, o5, o6) => Q (.inl none) (zS p q I [(75, some 0, fun _ => o6), (75, some 65, fun _ => o0), (75, some 66, fun _ => o1), (75, some 67, fun _ => o3), (104, none, o5), (105, none, o2), (106, none, o4)] J []))) : pm_call M cost zext d 263 [.ref 75] (pm_st 108 (shp p q) I J) Q := by
  obtain ⟨d, rfl⟩ := zd1 hd rfl
  have hc := pm_call_m (M := M) (cost := cost) zext_m d
  refine z_in (L := [(75, some 0, fun _ => (I 75 0)), (75, some 65, fun _ => (I 75 65)), (75, some 66, fun _ => (I 75 66)), (75, some 67, fun _ => (I 75 67)), (104, none, (I 104)), (105, none, (I 105)), (106, none, (I 106))]) (K := []) (ls := [some (.ref 75), none]) zmt_263 zco_263 rfl rfl (zid_s (zid_s (zid_s (zid_s (zid_a (zid_a (zid_a zid_n))))))) zid_n ?_
  delta f_X12_image at h
  refine g_aload_n (pc' := 1)  hc rfl rfl rfl rfl ?_
  refine g_iconst (pc' := 2) (v := (0 : Int32)) hc rfl zki_0 rfl ?_
  refine z_putI (pc' := 5) (L' := [(75, some 0, fun _ => (0 : Int32)), (75, some 65, fun _ => (I 75 65)), (75, some 66, fun _ => (I 75 66)), (75, some 67, fun _ => (I 75 67)), (104, none, (I 104)), (105, none, (I 105)), (106, none, (I 106))]) hc rfl rfl rfl sh_75 rfl zft_12_0 rfl (fun h => Bool.noConfusion h) rfl rfl rfl ?_
  refine g_aload_n (pc' := 6)  hc rfl rfl rfl rfl ?_
  refine g_iconst (pc' := 7) (v := (1 : Int32)) hc rfl zki_1 rfl ?_
  refine z_putI (pc' := 10) (L' := [(75, some 0, fun _ => (0 : Int32)), (75, some 65, fun _ => (1 : Int32)), (75, some 66, fun _ => (I 75 66)), (75, some 67, fun _ => (I 75 67)), (104, none, (I 104)), (105, none, (I 105)), (106, none, (I 106))]) hc rfl rfl rfl sh_75 rfl zft_12_65 rfl (fun h => Bool.noConfusion h) rfl rfl rfl ?_
  refine g_aload_n (pc' := 11)  hc rfl rfl rfl rfl ?_
  refine g_aload_n (pc' := 12)  hc rfl rfl rfl rfl ?_
  refine z_getI (pc' := 15) (v := (I 75 50)) hc rfl rfl rfl sh_75 rfl rfl rfl ?_
  refine z_putI (pc' := 18) (L' := [(75, some 0, fun _ => (0 : Int32)), (75, some 65, fun _ => (1 : Int32)), (75, some 66, fun _ => (I 75 50)), (75, some 67, fun _ => (I 75 67)), (104, none, (I 104)), (105, none, (I 105)), (106, none, (I 106))]) hc rfl rfl rfl sh_75 rfl zft_12_66 rfl (fun h => Bool.noConfusion h) rfl rfl rfl ?_
  refine g_aload_n (pc' := 19)  hc rfl rfl rfl rfl ?_
  refine g_aload_n (pc' := 20)  hc rfl rfl rfl rfl ?_
  refine z_getI (pc' := 23) (v := (I 75 60)) hc rfl rfl rfl sh_75 rfl rfl rfl ?_
  refine z_putI (pc' := 26) (L' := [(75, some 0, fun _ => (0 : Int32)), (75, some 65, fun _ => (1 : Int32)), (75, some 66, fun _ => (I 75 50)), (75, some 67, fun _ => (I 75 60)), (104, none, (I 104)), (105, none, (I 105)), (106, none, (I 106))]) hc rfl rfl rfl sh_75 rfl zft_12_67 rfl (fun h => Bool.noConfusion h) rfl rfl rfl ?_
  refine g_iconst (pc' := 27) (v := (0 : Int32)) hc rfl zki_0 rfl ?_
  refine g_istore_n (pc' := 28) (ls1 := [some (.ref 75), some (.int (0 : Int32))]) hc rfl (zlt rfl) rfl rfl ?_
  refine zjn (G := (fun (y4 : (Nat → Int32)) => ∀ z3 : Option Value, znl z3 = true → pm_ev C_X12_image (d + 1) (pm_call M cost zext d) cost (false, false) 108 0 0 Q 52 [some (.ref 75), z3] [] 0 0 (zS p q I [(75, some 0, fun _ => (0 : Int32)), (75, some 65, fun _ => (1 : Int32)), (75, some 66, fun _ => (I 75 50)), (75, some 67, fun _ => (I 75 60)), (104, none, y4), (105, none, (I 105)), (106, none, (I 106))] J []))) (zwp_bind h) ?_ (fun h => ?_)
  · rintro y4 h z3 hz3
    refine g_aload_n (pc' := 53)  hc rfl rfl rfl rfl ?_
    refine g_aload_n (pc' := 54)  hc rfl rfl rfl rfl ?_
    refine z_getR (pc' := 57)  hc rfl rfl rfl sh_75 rfl rfl ?_
    refine g_aload_n (pc' := 58)  hc rfl rfl rfl rfl ?_
    refine z_getR (pc' := 61)  hc rfl rfl rfl sh_75 rfl rfl ?_
    refine z_virt (as := [.ref 92, .ref 105]) (a := 75) (r := []) hc rfl rfl rfl rfl sh_75 rfl zco_157 rfl rfl rfl ?_
    refine ok_X12_copies_75_92_105 (zdp hd rfl) (zwp_mono (zwp_bind h) ?_)
    rintro o5 h
    refine z_po (pc' := 64) (st' := []) (v := none) (L' := [(75, some 0, fun _ => (0 : Int32)), (75, some 65, fun _ => (1 : Int32)), (75, some 66, fun _ => (I 75 50)), (75, some 67, fun _ => (I 75 60)), (104, none, y4), (105, none, o5), (106, none, (I 106))]) (K' := []) zco_157 rfl rfl rfl rfl rfl rfl rfl rfl ?_
    refine g_aload_n (pc' := 65)  hc rfl rfl rfl rfl ?_
    refine g_aload_n (pc' := 66)  hc rfl rfl rfl rfl ?_
    refine z_getR (pc' := 69)  hc rfl rfl rfl sh_75 rfl rfl ?_
    refine g_aload_n (pc' := 70)  hc rfl rfl rfl rfl ?_
    refine z_getR (pc' := 73)  hc rfl rfl rfl sh_75 rfl rfl ?_
    refine z_virt (as := [.ref 101, .ref 106]) (a := 75) (r := []) hc rfl rfl rfl rfl sh_75 rfl zco_157 rfl rfl rfl ?_
    refine ok_X12_copies_75_101_106 (zdp hd rfl) (zwp_mono (zwp_bind h) ?_)
    rintro o6 h
    refine z_po (pc' := 76) (st' := []) (v := none) (L' := [(75, some 0, fun _ => (0 : Int32)), (75, some 65, fun _ => (1 : Int32)), (75, some 66, fun _ => (I 75 50)), (75, some 67, fun _ => (I 75 60)), (104, none, y4), (105, none, o5), (106, none, o6)]) (K' := []) zco_157 rfl rfl rfl rfl rfl rfl rfl rfl ?_
    replace h := zws h
    exact g_return hc rfl rfl (fun _ => ⟨rfl, rfl⟩) h
  refine zitr_ev (G := (fun (g : Int32 × (Nat → Int32)) => match g with | (x1, x2) => pm_ev C_X12_image (d + 1) (pm_call M cost zext d) cost (false, false) 108 0 0 Q 28 [some (.ref 75), some (.int x1)] [] 0 0 (zS p q I [(75, some 0, fun _ => (0 : Int32)), (75, some 65, fun _ => (1 : Int32)), (75, some 66, fun _ => (I 75 50)), (75, some 67, fun _ => (I 75 60)), (104, none, x2), (105, none, (I 105)), (106, none, (I 106))] J []))) ?_ zFU ((0 : Int32), (I 104)) h
  rintro ⟨x1, x2⟩ h
  refine g_iload_n (pc' := 29)  hc rfl rfl rfl ?_
  refine g_bipush (pc' := 31) (v := (70 : Int32)) hc rfl zkb_70 rfl ?_
  refine g_icmp_ge (pc' := 34) hc rfl rfl (fun hx => ?_) (fun hx => ?_)
  · replace h := zwp_t h hx
    replace h := zwp_r h
    exact h (some (.int x1)) rfl
  · replace h := zwp_f h hx
    refine g_aload_n (pc' := 35)  hc rfl rfl rfl rfl ?_
    refine z_getR (pc' := 38)  hc rfl rfl rfl sh_75 rfl rfl ?_
    refine g_iload_n (pc' := 39)  hc rfl rfl rfl ?_
    refine g_aload_n (pc' := 40)  hc rfl rfl rfl rfl ?_
    refine z_getR (pc' := 43)  hc rfl rfl rfl sh_75 rfl rfl ?_
    refine g_iload_n (pc' := 44)  hc rfl rfl rfl ?_
    have hb := (zwp_bnd h).1
    replace h := (zwp_bnd h).2
    refine z_iaload (pc' := 45) (v := (((I 91)) x1.toNatClampNeg)) hc rfl rfl sh_91 hb rfl rfl ?_
    have hb := (zwp_bnd h).1
    replace h := (zwp_bnd h).2
    refine z_iastore (pc' := 46) (g := x2) (L' := [(75, some 0, fun _ => (0 : Int32)), (75, some 65, fun _ => (1 : Int32)), (75, some 66, fun _ => (I 75 50)), (75, some 67, fun _ => (I 75 60)), (104, none, (upd x2 x1.toNatClampNeg (((I 91)) x1.toNatClampNeg))), (105, none, (I 105)), (106, none, (I 106))]) hc rfl rfl sh_104 hb rfl rfl rfl rfl ?_
    refine g_iinc (pc' := 49) (ls1 := [some (.ref 75), some (.int (x1 + (1 : Int32)))]) hc rfl rfl zki_1 (zlt rfl) rfl rfl ?_
    refine g_goto hc rfl ?_
    replace h := zwp_l h
    exact h
