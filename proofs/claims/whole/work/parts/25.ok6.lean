set_option maxRecDepth 4000 in
theorem ok_X6_read_4_1_13 {p q : Nat} {I : pI} {J : pJ} {a3 : Int32} {Q : pQ} {d : Nat} (hd : 10 ≤ d) (h : zwp (f_X6_read a3 (I 4 4) (I 4 2) (I 4 3) (I 4 5) (I 15) (I 13 2) (I 2) (I 1 4) (I 1 5) (I 1 2) (I 1 6) (I 1 3) (I 5) (I 4 1)) (fun w => match w with | (r, o0, o1, o2, o3, o4, o5, o6, o7, o8, o9, o10, o11) => Q (.inl (some (.int r))) (zS p q I [(1, some 3, fun _ => o9), (1, some 4, fun _ => o6), (1, some 5, fun _ => o7), (1, some 6, fun _ => o8), (4, some 1, fun _ => o11), (4, some 2, fun _ => o1), (4, some 3, fun _ => o2), (4, some 4, fun _ => o0), (4, some 5, fun _ => o3), (5, none, o10), (13, some 2, fun _ => o5), (15, none, o4)] J []))) : pm_call M cost zext d 48 [.ref 4, .ref 1, .ref 13, .int a3] (pm_st 108 (shp p q) I J) Q := by
  obtain ⟨d, rfl⟩ := zd1 hd rfl
  have hc := pm_call_m (M := M) (cost := cost) zext_m d
  refine z_in (L := [(1, some 3, fun _ => (I 1 3)), (1, some 4, fun _ => (I 1 4)), (1, some 5, fun _ => (I 1 5)), (1, some 6, fun _ => (I 1 6)), (4, some 1, fun _ => (I 4 1)), (4, some 2, fun _ => (I 4 2)), (4, some 3, fun _ => (I 4 3)), (4, some 4, fun _ => (I 4 4)), (4, some 5, fun _ => (I 4 5)), (5, none, (I 5)), (13, some 2, fun _ => (I 13 2)), (15, none, (I 15))]) (K := []) (ls := [some (.ref 4), some (.ref 1), some (.ref 13), some (.int a3), none, none]) zmt_48 zco_48 rfl rfl (zid_s (zid_s (zid_s (zid_s (zid_s (zid_s (zid_s (zid_s (zid_s (zid_a (zid_s (zid_a zid_n)))))))))))) zid_n ?_
  delta f_X6_read at h
  refine g_aload_n (pc' := 1)  hc rfl rfl rfl rfl ?_
  refine z_virt (as := []) (a := 13) (r := []) hc rfl rfl rfl rfl sh_13 rfl zco_43 rfl rfl rfl ?_
  refine ok_X5_isTold_13 (zdp hd rfl) (zwp_mono (zwp_bind h) ?_)
  rintro r1 h
  refine z_po (pc' := 4) (st' := [.int r1]) (v := (some (.int r1))) (L' := [(1, some 3, fun _ => (I 1 3)), (1, some 4, fun _ => (I 1 4)), (1, some 5, fun _ => (I 1 5)), (1, some 6, fun _ => (I 1 6)), (4, some 1, fun _ => (I 4 1)), (4, some 2, fun _ => (I 4 2)), (4, some 3, fun _ => (I 4 3)), (4, some 4, fun _ => (I 4 4)), (4, some 5, fun _ => (I 4 5)), (5, none, (I 5)), (13, some 2, fun _ => (I 13 2)), (15, none, (I 15))]) (K' := []) zco_43 rfl rfl rfl rfl rfl rfl rfl rfl ?_
  refine g_if_eq (pc' := 7) hc rfl rfl (fun hx => ?_) (fun hx => ?_)
  · replace h := zwp_t h hx
    refine g_aload_n (pc' := 10)  hc rfl rfl rfl rfl ?_
    refine g_iconst (pc' := 11) (v := (0 : Int32)) hc rfl zki_0 rfl ?_
    refine z_putI (pc' := 14) (L' := [(1, some 3, fun _ => (I 1 3)), (1, some 4, fun _ => (I 1 4)), (1, some 5, fun _ => (I 1 5)), (1, some 6, fun _ => (I 1 6)), (4, some 1, fun _ => (0 : Int32)), (4, some 2, fun _ => (I 4 2)), (4, some 3, fun _ => (I 4 3)), (4, some 4, fun _ => (I 4 4)), (4, some 5, fun _ => (I 4 5)), (5, none, (I 5)), (13, some 2, fun _ => (I 13 2)), (15, none, (I 15))]) hc rfl rfl rfl sh_4 rfl zft_6_1 rfl (fun h => Bool.noConfusion h) rfl rfl rfl ?_
    refine g_aload_n (pc' := 15)  hc rfl rfl rfl rfl ?_
    refine g_iconst (pc' := 16) (v := (0 : Int32)) hc rfl zki_0 rfl ?_
    refine z_putI (pc' := 19) (L' := [(1, some 3, fun _ => (I 1 3)), (1, some 4, fun _ => (I 1 4)), (1, some 5, fun _ => (I 1 5)), (1, some 6, fun _ => (I 1 6)), (4, some 1, fun _ => (0 : Int32)), (4, some 2, fun _ => (0 : Int32)), (4, some 3, fun _ => (I 4 3)), (4, some 4, fun _ => (I 4 4)), (4, some 5, fun _ => (I 4 5)), (5, none, (I 5)), (13, some 2, fun _ => (I 13 2)), (15, none, (I 15))]) hc rfl rfl rfl sh_4 rfl zft_6_2 rfl (fun h => Bool.noConfusion h) rfl rfl rfl ?_
    refine g_aload_n (pc' := 20)  hc rfl rfl rfl rfl ?_
    refine g_iconst (pc' := 21) (v := (1 : Int32)) hc rfl zki_1 rfl ?_
    refine z_virt (as := [.int (1 : Int32)]) (a := 4) (r := []) hc rfl rfl rfl rfl sh_4 rfl zco_50 rfl rfl rfl ?_
    refine ok_X6_beginPart_4 (zdp hd rfl) (zwp_mono (zwp_bind h) ?_)
    rintro ⟨o2, o3, o4⟩ h
    refine z_po (pc' := 24) (st' := []) (v := none) (L' := [(1, some 3, fun _ => (I 1 3)), (1, some 4, fun _ => (I 1 4)), (1, some 5, fun _ => (I 1 5)), (1, some 6, fun _ => (I 1 6)), (4, some 1, fun _ => (0 : Int32)), (4, some 2, fun _ => (0 : Int32)), (4, some 3, fun _ => o3), (4, some 4, fun _ => o2), (4, some 5, fun _ => o4), (5, none, (I 5)), (13, some 2, fun _ => (I 13 2)), (15, none, (I 15))]) (K' := []) zco_50 rfl rfl rfl rfl rfl rfl rfl rfl ?_
    refine g_aload_n (pc' := 25)  hc rfl rfl rfl rfl ?_
    refine z_virt (as := []) (a := 1) (r := []) hc rfl rfl rfl rfl sh_1 rfl zco_83 rfl rfl rfl ?_
    refine ok_X9_advance_1 (zdp hd rfl) (zwp_mono (zwp_bind h) ?_)
    rintro ⟨o5, o6, o7, o8⟩ h
    refine z_po (pc' := 28) (st' := []) (v := none) (L' := [(1, some 3, fun _ => o8), (1, some 4, fun _ => o5), (1, some 5, fun _ => o6), (1, some 6, fun _ => o7), (4, some 1, fun _ => (0 : Int32)), (4, some 2, fun _ => (0 : Int32)), (4, some 3, fun _ => o3), (4, some 4, fun _ => o2), (4, some 5, fun _ => o4), (5, none, (I 5)), (13, some 2, fun _ => (I 13 2)), (15, none, (I 15))]) (K' := []) zco_83 rfl rfl rfl rfl rfl rfl rfl rfl ?_
    refine g_iconst (pc' := 29) (v := (0 : Int32)) hc rfl zki_0 rfl ?_
    refine g_istore (pc' := 31) (ls1 := [some (.ref 4), some (.ref 1), some (.ref 13), some (.int a3), some (.int (0 : Int32)), none]) hc rfl (zlt rfl) rfl rfl ?_
    refine g_iconst (pc' := 32) (v := (0 : Int32)) hc rfl zki_0 rfl ?_
    refine g_istore (pc' := 34) (ls1 := [some (.ref 4), some (.ref 1), some (.ref 13), some (.int a3), some (.int (0 : Int32)), some (.int (0 : Int32))]) hc rfl (zlt rfl) rfl rfl ?_
    refine zjn (G := (fun (g : Int32 × Int32 × Int32 × Int32 × Int32 × (Nat → Int32) × Int32 × Int32 × Int32 × Int32 × Int32 × (Nat → Int32) × Int32) => match g with | (y23, y25, y26, y27, y28, y29, y30, y31, y32, y33, y34, y35, y36) => ∀ z24 : Option Value, znl z24 = true → pm_ev C_X6_read (d + 1) (pm_call M cost zext d) cost (false, false) 108 0 0 Q 95 [some (.ref 4), some (.ref 1), some (.ref 13), some (.int a3), some (.int y23), z24] [] 0 0 (zS p q I [(1, some 3, fun _ => y34), (1, some 4, fun _ => y31), (1, some 5, fun _ => y32), (1, some 6, fun _ => y33), (4, some 1, fun _ => y36), (4, some 2, fun _ => y26), (4, some 3, fun _ => y27), (4, some 4, fun _ => y25), (4, some 5, fun _ => y28), (5, none, y35), (13, some 2, fun _ => y30), (15, none, y29)] J []))) (zwp_bind h) ?_ (fun h => ?_)
    · rintro ⟨y23, y25, y26, y27, y28, y29, y30, y31, y32, y33, y34, y35, y36⟩ h z24 hz24
      refine g_iload (pc' := 97)  hc rfl rfl rfl ?_
      refine g_if_ne (pc' := 100) hc rfl rfl (fun hx => ?_) (fun hx => ?_)
      · replace h := zwp_f h hx
        refine g_iload (pc' := 108)  hc rfl rfl rfl ?_
        replace h := zws h
        exact g_ireturn hc rfl rfl rfl (fun _ => ⟨rfl, rfl⟩) h
      · replace h := zwp_t h hx
        refine g_aload_n (pc' := 101)  hc rfl rfl rfl rfl ?_
        refine g_aload_n (pc' := 102)  hc rfl rfl rfl rfl ?_
        refine g_iconst (pc' := 103) (v := (0 : Int32)) hc rfl zki_0 rfl ?_
        refine z_virt (as := [.ref 13, .int (0 : Int32)]) (a := 4) (r := []) hc rfl rfl rfl rfl sh_4 rfl zco_59 rfl rfl rfl ?_
        refine ok_X6_release_4_13 (zdp hd rfl) (zwp_mono (zwp_bind h) ?_)
        rintro ⟨o37, o38, o39⟩ h
        refine z_po (pc' := 106) (st' := []) (v := none) (L' := [(1, some 3, fun _ => y34), (1, some 4, fun _ => y31), (1, some 5, fun _ => y32), (1, some 6, fun _ => y33), (4, some 1, fun _ => o39), (4, some 2, fun _ => y26), (4, some 3, fun _ => y27), (4, some 4, fun _ => y25), (4, some 5, fun _ => y28), (5, none, y35), (13, some 2, fun _ => o38), (15, none, o37)]) (K' := []) zco_59 rfl rfl rfl rfl rfl rfl rfl rfl ?_
        refine g_iload (pc' := 108)  hc rfl rfl rfl ?_
        replace h := zws h
        exact g_ireturn hc rfl rfl rfl (fun _ => ⟨rfl, rfl⟩) h
    refine zitr_ev (G := (fun (g : Int32 × Int32 × Int32 × Int32 × Int32 × Int32 × (Nat → Int32) × Int32 × Int32 × Int32 × Int32 × Int32 × (Nat → Int32) × Int32) => match g with | (x9, x10, x11, x12, x13, x14, x15, x16, x17, x18, x19, x20, x21, x22) => pm_ev C_X6_read (d + 1) (pm_call M cost zext d) cost (false, false) 108 0 0 Q 34 [some (.ref 4), some (.ref 1), some (.ref 13), some (.int a3), some (.int x9), some (.int x10)] [] 0 0 (zS p q I [(1, some 3, fun _ => x20), (1, some 4, fun _ => x17), (1, some 5, fun _ => x18), (1, some 6, fun _ => x19), (4, some 1, fun _ => x22), (4, some 2, fun _ => x12), (4, some 3, fun _ => x13), (4, some 4, fun _ => x11), (4, some 5, fun _ => x14), (5, none, x21), (13, some 2, fun _ => x16), (15, none, x15)] J []))) ?_ zFU ((0 : Int32), (0 : Int32), o2, (0 : Int32), o3, o4, (I 15), (I 13 2), o5, o6, o7, o8, (I 5), (0 : Int32)) h
    rintro ⟨x9, x10, x11, x12, x13, x14, x15, x16, x17, x18, x19, x20, x21, x22⟩ h
    refine g_iload (pc' := 36)  hc rfl rfl rfl ?_
    refine g_sipush (pc' := 39) (v := (700 : Int32)) hc rfl zks_700 rfl ?_
    refine g_icmp_ge (pc' := 42) hc rfl rfl (fun hx => ?_) (fun hx => ?_)
    · replace h := zwp_t h hx
      replace h := zwp_r h
      exact h (some (.int x10)) rfl
    · replace h := zwp_f h hx
      refine g_iload (pc' := 44)  hc rfl rfl rfl ?_
      refine g_if_ne (pc' := 47) hc rfl rfl (fun hx => ?_) (fun hx => ?_)
      · replace h := zwp_f h hx
        replace h := zwp_r h
        exact h (some (.int x10)) rfl
      · replace h := zwp_t h hx
        refine g_aload_n (pc' := 48)  hc rfl rfl rfl rfl ?_
        refine g_aload_n (pc' := 49)  hc rfl rfl rfl rfl ?_
        refine z_virt (as := [.ref 1]) (a := 4) (r := []) hc rfl rfl rfl rfl sh_4 rfl zco_49 rfl rfl rfl ?_
        refine ok_X6_isEnd_4_1 (zdp hd rfl) (zwp_mono (zwp_bind h) ?_)
        rintro r40 h
        refine z_po (pc' := 52) (st' := [.int r40]) (v := (some (.int r40))) (L' := [(1, some 3, fun _ => x20), (1, some 4, fun _ => x17), (1, some 5, fun _ => x18), (1, some 6, fun _ => x19), (4, some 1, fun _ => x22), (4, some 2, fun _ => x12), (4, some 3, fun _ => x13), (4, some 4, fun _ => x11), (4, some 5, fun _ => x14), (5, none, x21), (13, some 2, fun _ => x16), (15, none, x15)]) (K' := []) zco_49 rfl rfl rfl rfl rfl rfl rfl rfl ?_
        refine g_if_ne (pc' := 55) hc rfl rfl (fun hx => ?_) (fun hx => ?_)
        · replace h := zwp_f h hx
          replace h := zwp_r h
          exact h (some (.int x10)) rfl
        · replace h := zwp_t h hx
          refine g_aload_n (pc' := 56)  hc rfl rfl rfl rfl ?_
          refine z_getI (pc' := 59) (v := x14) hc rfl rfl rfl sh_4 rfl rfl rfl ?_
          refine zjn (G := (fun (g : Int32 × Int32 × Int32 × Int32 × Int32 × (Nat → Int32) × Int32 × (Nat → Int32) × Int32) => match g with | (j41, j42, j43, j44, j45, j46, j47, j48, j49) => pm_ev C_X6_read (d + 1) (pm_call M cost zext d) cost (false, false) 108 0 0 Q 78 [some (.ref 4), some (.ref 1), some (.ref 13), some (.int a3), some (.int x9), some (.int x10)] [.int j41] 0 0 (zS p q I [(1, some 3, fun _ => x20), (1, some 4, fun _ => x17), (1, some 5, fun _ => x18), (1, some 6, fun _ => x19), (4, some 1, fun _ => j49), (4, some 2, fun _ => j43), (4, some 3, fun _ => j44), (4, some 4, fun _ => j42), (4, some 5, fun _ => j45), (5, none, j48), (13, some 2, fun _ => j47), (15, none, j46)] J []))) (zwp_bind h) ?_ (fun h => ?_)
          · rintro ⟨j41, j42, j43, j44, j45, j46, j47, j48, j49⟩ h
            refine g_istore (pc' := 80) (ls1 := [some (.ref 4), some (.ref 1), some (.ref 13), some (.int a3), some (.int j41), some (.int x10)]) hc rfl (zlt rfl) rfl rfl ?_
            refine g_iload (pc' := 82)  hc rfl rfl rfl ?_
            refine g_if_ne (pc' := 85) hc rfl rfl (fun hx => ?_) (fun hx => ?_)
            · replace h := zwp_f h hx
              refine g_iinc (pc' := 92) (ls1 := [some (.ref 4), some (.ref 1), some (.ref 13), some (.int a3), some (.int j41), some (.int (x10 + (1 : Int32)))]) hc rfl rfl zki_1 (zlt rfl) rfl rfl ?_
              refine g_goto hc rfl ?_
              replace h := zwp_l h
              exact h
            · replace h := zwp_t h hx
              refine g_aload_n (pc' := 86)  hc rfl rfl rfl rfl ?_
              refine z_virt (as := []) (a := 1) (r := []) hc rfl rfl rfl rfl sh_1 rfl zco_83 rfl rfl rfl ?_
              refine ok_X9_advance_1 (zdp hd rfl) (zwp_mono (zwp_bind h) ?_)
              rintro ⟨o50, o51, o52, o53⟩ h
              refine z_po (pc' := 89) (st' := []) (v := none) (L' := [(1, some 3, fun _ => o53), (1, some 4, fun _ => o50), (1, some 5, fun _ => o51), (1, some 6, fun _ => o52), (4, some 1, fun _ => j49), (4, some 2, fun _ => j43), (4, some 3, fun _ => j44), (4, some 4, fun _ => j42), (4, some 5, fun _ => j45), (5, none, j48), (13, some 2, fun _ => j47), (15, none, j46)]) (K' := []) zco_83 rfl rfl rfl rfl rfl rfl rfl rfl ?_
              refine g_iinc (pc' := 92) (ls1 := [some (.ref 4), some (.ref 1), some (.ref 13), some (.int a3), some (.int j41), some (.int (x10 + (1 : Int32)))]) hc rfl rfl zki_1 (zlt rfl) rfl rfl ?_
              refine g_goto hc rfl ?_
              replace h := zwp_l h
              exact h
          refine g_if_eq (pc' := 62) hc rfl rfl (fun hx => ?_) (fun hx => ?_)
          · replace h := zwp_t h hx
            refine g_aload_n (pc' := 73)  hc rfl rfl rfl rfl ?_
            refine g_aload_n (pc' := 74)  hc rfl rfl rfl rfl ?_
            refine g_aload_n (pc' := 75)  hc rfl rfl rfl rfl ?_
            refine z_virt (as := [.ref 1, .ref 13]) (a := 4) (r := []) hc rfl rfl rfl rfl sh_4 rfl zco_55 rfl rfl rfl ?_
            refine ok_X6_readOperator_4_1_13 (zdp hd rfl) (zwp_mono (zwp_bind h) ?_)
            rintro ⟨r62, o54, o55, o56, o57, o58, o59, o60, o61⟩ h
            refine z_po (pc' := 78) (st' := [.int r62]) (v := (some (.int r62))) (L' := [(1, some 3, fun _ => x20), (1, some 4, fun _ => x17), (1, some 5, fun _ => x18), (1, some 6, fun _ => x19), (4, some 1, fun _ => o61), (4, some 2, fun _ => o55), (4, some 3, fun _ => o56), (4, some 4, fun _ => o54), (4, some 5, fun _ => o57), (5, none, o60), (13, some 2, fun _ => o59), (15, none, o58)]) (K' := []) zco_55 rfl rfl rfl rfl rfl rfl rfl rfl ?_
            replace h := zws h
            exact h
          · replace h := zwp_f h hx
            refine g_aload_n (pc' := 63)  hc rfl rfl rfl rfl ?_
            refine g_aload_n (pc' := 64)  hc rfl rfl rfl rfl ?_
            refine g_aload_n (pc' := 65)  hc rfl rfl rfl rfl ?_
            refine g_iload_n (pc' := 66)  hc rfl rfl rfl ?_
            refine z_virt (as := [.ref 1, .ref 13, .int a3]) (a := 4) (r := []) hc rfl rfl rfl rfl sh_4 rfl zco_51 rfl rfl rfl ?_
            refine ok_X6_readPart_4_1_13 (zdp hd rfl) (zwp_mono (zwp_bind h) ?_)
            rintro ⟨r71, o63, o64, o65, o66, o67, o68, o69, o70⟩ h
            refine z_po (pc' := 69) (st' := [.int r71]) (v := (some (.int r71))) (L' := [(1, some 3, fun _ => x20), (1, some 4, fun _ => x17), (1, some 5, fun _ => x18), (1, some 6, fun _ => x19), (4, some 1, fun _ => o70), (4, some 2, fun _ => o64), (4, some 3, fun _ => o65), (4, some 4, fun _ => o63), (4, some 5, fun _ => o66), (5, none, o69), (13, some 2, fun _ => o68), (15, none, o67)]) (K' := []) zco_51 rfl rfl rfl rfl rfl rfl rfl rfl ?_
            refine g_goto hc rfl ?_
            replace h := zws h
            exact h
  · replace h := zwp_f h hx
    refine g_iconst (pc' := 8) (v := (5 : Int32)) hc rfl zki_5 rfl ?_
    replace h := zws h
    exact g_ireturn hc rfl rfl rfl (fun _ => ⟨rfl, rfl⟩) h
set_option maxRecDepth 4000 in
theorem ok_X5_add_16 {p q : Nat} {I : pI} {J : pJ} {a1 : Int32} {Q : pQ} {d : Nat} (hd : 1 ≤ d) (h : zwp (f_X5_add a1 (I 18) (I 16 2)) (fun w => match w with | (o0, o1) => Q (.inl none) (zS p q I [(16, some 2, fun _ => o1), (18, none, o0)] J []))) : pm_call M cost zext d 44 [.ref 16, .int a1] (pm_st 108 (shp p q) I J) Q := by
  obtain ⟨d, rfl⟩ := zd1 hd rfl
  have hc := pm_call_m (M := M) (cost := cost) zext_m d
  refine z_in (L := [(16, some 2, fun _ => (I 16 2)), (18, none, (I 18))]) (K := []) (ls := [some (.ref 16), some (.int a1)]) zmt_44 zco_44 rfl rfl (zid_s (zid_a zid_n)) zid_n ?_
  delta f_X5_add at h
  refine g_aload_n (pc' := 1)  hc rfl rfl rfl rfl ?_
  refine z_getI (pc' := 4) (v := (I 16 2)) hc rfl rfl rfl sh_16 rfl rfl rfl ?_
  refine g_sipush (pc' := 7) (v := (700 : Int32)) hc rfl zks_700 rfl ?_
  refine g_icmp_ge (pc' := 10) hc rfl rfl (fun hx => ?_) (fun hx => ?_)
  · replace h := zwp_t h hx
    replace h := zws h
    exact g_return hc rfl rfl (fun _ => ⟨rfl, rfl⟩) h
  · replace h := zwp_f h hx
    refine g_aload_n (pc' := 11)  hc rfl rfl rfl rfl ?_
    refine z_getR (pc' := 14)  hc rfl rfl rfl sh_16 rfl rfl ?_
    refine g_aload_n (pc' := 15)  hc rfl rfl rfl rfl ?_
    refine z_getI (pc' := 18) (v := (I 16 2)) hc rfl rfl rfl sh_16 rfl rfl rfl ?_
    refine g_iload_n (pc' := 19)  hc rfl rfl rfl ?_
    have hb := (zwp_bnd h).1
    replace h := (zwp_bnd h).2
    refine z_iastore (pc' := 20) (g := (I 18)) (L' := [(16, some 2, fun _ => (I 16 2)), (18, none, (upd ((I 18)) ((I 16 2)).toNatClampNeg a1))]) hc rfl rfl sh_18 hb rfl rfl rfl rfl ?_
    refine g_aload_n (pc' := 21)  hc rfl rfl rfl rfl ?_
    refine g_dup (pc' := 22)  hc rfl rfl rfl ?_
    refine z_getI (pc' := 25) (v := (I 16 2)) hc rfl rfl rfl sh_16 rfl rfl rfl ?_
    refine g_iconst (pc' := 26) (v := (1 : Int32)) hc rfl zki_1 rfl ?_
    refine g_iadd (pc' := 27)  hc rfl rfl ?_
    refine z_putI (pc' := 30) (L' := [(16, some 2, fun _ => (((I 16 2)) + (1 : Int32))), (18, none, (upd ((I 18)) ((I 16 2)).toNatClampNeg a1))]) hc rfl rfl rfl sh_16 rfl zft_5_2 rfl (fun h => Bool.noConfusion h) rfl rfl rfl ?_
    replace h := zws h
    exact g_return hc rfl rfl (fun _ => ⟨rfl, rfl⟩) h
set_option maxRecDepth 4000 in
theorem ok_X6_readNumber_4_1_16 {p q : Nat} {I : pI} {J : pJ} {Q : pQ} {d : Nat} (hd : 2 ≤ d) (h : zwp (f_X6_readNumber (I 4 5) (I 18) (I 16 2) (I 1 4) (I 1 5) (I 1 6) (I 1 3)) (fun w => match w with | (r, o0, o1, o2) => Q (.inl (some (.int r))) (zS p q I [(4, some 5, fun _ => o0), (16, some 2, fun _ => o2), (18, none, o1)] J []))) : pm_call M cost zext d 52 [.ref 4, .ref 1, .ref 16] (pm_st 108 (shp p q) I J) Q := by
  obtain ⟨d, rfl⟩ := zd1 hd rfl
  have hc := pm_call_m (M := M) (cost := cost) zext_m d
  refine z_in (L := [(4, some 5, fun _ => (I 4 5)), (16, some 2, fun _ => (I 16 2)), (18, none, (I 18))]) (K := []) (ls := [some (.ref 4), some (.ref 1), some (.ref 16), none]) zmt_52 zco_52 rfl rfl (zid_s (zid_s (zid_a zid_n))) zid_n ?_
  delta f_X6_readNumber at h
  refine g_aload_n (pc' := 1)  hc rfl rfl rfl rfl ?_
  refine g_iconst (pc' := 2) (v := (0 : Int32)) hc rfl zki_0 rfl ?_
  refine g_sipush (pc' := 5) (v := (9999 : Int32)) hc rfl zks_9999 rfl ?_
  refine z_virt (as := [.int (0 : Int32), .int (9999 : Int32)]) (a := 1) (r := []) hc rfl rfl rfl rfl sh_1 rfl zco_87 rfl rfl rfl ?_
  refine ok_X9_numberFault_1 (zdp hd rfl) (zwp_mono (zwp_bind h) ?_)
  rintro r1 h
  refine z_po (pc' := 8) (st' := [.int r1]) (v := (some (.int r1))) (L' := [(4, some 5, fun _ => (I 4 5)), (16, some 2, fun _ => (I 16 2)), (18, none, (I 18))]) (K' := []) zco_87 rfl rfl rfl rfl rfl rfl rfl rfl ?_
  refine g_istore_n (pc' := 9) (ls1 := [some (.ref 4), some (.ref 1), some (.ref 16), some (.int r1)]) hc rfl (zlt rfl) rfl rfl ?_
  refine g_iload_n (pc' := 10)  hc rfl rfl rfl ?_
  refine g_if_eq (pc' := 13) hc rfl rfl (fun hx => ?_) (fun hx => ?_)
  · replace h := zwp_t h hx
    refine g_aload_n (pc' := 16)  hc rfl rfl rfl rfl ?_
    refine g_aload_n (pc' := 17)  hc rfl rfl rfl rfl ?_
    refine z_getI (pc' := 20) (v := (I 1 6)) hc rfl rfl rfl sh_1 rfl rfl rfl ?_
    refine z_virt (as := [.int (I 1 6)]) (a := 16) (r := []) hc rfl rfl rfl rfl sh_16 rfl zco_44 rfl rfl rfl ?_
    refine ok_X5_add_16 (zdp hd rfl) (zwp_mono (zwp_bind h) ?_)
    rintro ⟨o2, o3⟩ h
    refine z_po (pc' := 23) (st' := []) (v := none) (L' := [(4, some 5, fun _ => (I 4 5)), (16, some 2, fun _ => o3), (18, none, o2)]) (K' := []) zco_44 rfl rfl rfl rfl rfl rfl rfl rfl ?_
    refine g_aload_n (pc' := 24)  hc rfl rfl rfl rfl ?_
    refine g_iconst (pc' := 25) (v := (0 : Int32)) hc rfl zki_0 rfl ?_
    refine z_putI (pc' := 28) (L' := [(4, some 5, fun _ => (0 : Int32)), (16, some 2, fun _ => o3), (18, none, o2)]) hc rfl rfl rfl sh_4 rfl zft_6_5 rfl (fun h => Bool.noConfusion h) rfl rfl rfl ?_
    refine g_iconst (pc' := 29) (v := (0 : Int32)) hc rfl zki_0 rfl ?_
    replace h := zws h
    exact g_ireturn hc rfl rfl rfl (fun _ => ⟨rfl, rfl⟩) h
  · replace h := zwp_f h hx
    refine g_iload_n (pc' := 14)  hc rfl rfl rfl ?_
    replace h := zws h
    exact g_ireturn hc rfl rfl rfl (fun _ => ⟨rfl, rfl⟩) h
set_option maxRecDepth 4000 in
theorem ok_X6_readWord_4_1_16 {p q : Nat} {I : pI} {J : pJ} {a3 : Int32} {Q : pQ} {d : Nat} (hd : 8 ≤ d) (h : zwp (f_X6_readWord a3 (I 4 4) (I 4 3) (I 4 5) (I 18) (I 16 2) (I 2) (I 1 4) (I 1 5) (I 1 3) (I 5) (I 4 1)) (fun w => match w with | (r, o0, o1, o2, o3, o4, o5) => Q (.inl (some (.int r))) (zS p q I [(4, some 1, fun _ => o5), (4, some 3, fun _ => o0), (4, some 5, fun _ => o1), (5, none, o4), (16, some 2, fun _ => o3), (18, none, o2)] J []))) : pm_call M cost zext d 53 [.ref 4, .ref 1, .ref 16, .int a3] (pm_st 108 (shp p q) I J) Q := by
  obtain ⟨d, rfl⟩ := zd1 hd rfl
  have hc := pm_call_m (M := M) (cost := cost) zext_m d
  refine z_in (L := [(4, some 1, fun _ => (I 4 1)), (4, some 3, fun _ => (I 4 3)), (4, some 5, fun _ => (I 4 5)), (5, none, (I 5)), (16, some 2, fun _ => (I 16 2)), (18, none, (I 18))]) (K := []) (ls := [some (.ref 4), some (.ref 1), some (.ref 16), some (.int a3)]) zmt_53 zco_53 rfl rfl (zid_s (zid_s (zid_s (zid_a (zid_s (zid_a zid_n)))))) zid_n ?_
  delta f_X6_readWord at h
  refine g_aload_n (pc' := 1)  hc rfl rfl rfl rfl ?_
  refine z_getI (pc' := 4) (v := (I 4 4)) hc rfl rfl rfl sh_4 rfl rfl rfl ?_
  refine g_if_eq (pc' := 7) hc rfl rfl (fun hx => ?_) (fun hx => ?_)
  · replace h := zwp_t h hx
    refine g_iload_n (pc' := 46)  hc rfl rfl rfl ?_
    refine g_iconst (pc' := 47) (v := (-1 : Int32)) hc rfl zki_m1 rfl ?_
    refine g_icmp_ne (pc' := 50) hc rfl rfl (fun hx => ?_) (fun hx => ?_)
    · replace h := zwp_f h hx
      refine g_aload_n (pc' := 53)  hc rfl rfl rfl rfl ?_
      refine g_iconst (pc' := 54) (v := (-1 : Int32)) hc rfl zki_m1 rfl ?_
      refine g_iload_n (pc' := 55)  hc rfl rfl rfl ?_
      refine g_isub (pc' := 56)  hc rfl rfl ?_
      refine z_virt (as := [.int ((-1 : Int32) - a3)]) (a := 16) (r := []) hc rfl rfl rfl rfl sh_16 rfl zco_44 rfl rfl rfl ?_
      refine ok_X5_add_16 (zdp hd rfl) (zwp_mono (zwp_bind h) ?_)
      rintro ⟨o1, o2⟩ h
      refine z_po (pc' := 59) (st' := []) (v := none) (L' := [(4, some 1, fun _ => (I 4 1)), (4, some 3, fun _ => (I 4 3)), (4, some 5, fun _ => (I 4 5)), (5, none, (I 5)), (16, some 2, fun _ => o2), (18, none, o1)]) (K' := []) zco_44 rfl rfl rfl rfl rfl rfl rfl rfl ?_
      refine g_aload_n (pc' := 60)  hc rfl rfl rfl rfl ?_
      refine g_iconst (pc' := 61) (v := (0 : Int32)) hc rfl zki_0 rfl ?_
      refine z_putI (pc' := 64) (L' := [(4, some 1, fun _ => (I 4 1)), (4, some 3, fun _ => (I 4 3)), (4, some 5, fun _ => (0 : Int32)), (5, none, (I 5)), (16, some 2, fun _ => o2), (18, none, o1)]) hc rfl rfl rfl sh_4 rfl zft_6_5 rfl (fun h => Bool.noConfusion h) rfl rfl rfl ?_
      refine g_iconst (pc' := 65) (v := (0 : Int32)) hc rfl zki_0 rfl ?_
      replace h := zws h
      exact g_ireturn hc rfl rfl rfl (fun _ => ⟨rfl, rfl⟩) h
    · replace h := zwp_t h hx
      refine g_iconst (pc' := 51) (v := (3 : Int32)) hc rfl zki_3 rfl ?_
      replace h := zws h
      exact g_ireturn hc rfl rfl rfl (fun _ => ⟨rfl, rfl⟩) h
  · replace h := zwp_f h hx
    refine g_aload_n (pc' := 8)  hc rfl rfl rfl rfl ?_
    refine g_ldc_t (pc' := 10)  hc rfl rfl rfl ?_
    refine z_virt (as := [.retAddr 14]) (a := 1) (r := []) hc rfl rfl rfl rfl sh_1 rfl zco_90 rfl rfl rfl ?_
    refine ok_X9_isWord_1 (zdp hd rfl) (zlt rfl) (zwp_mono (zwp_bind h) ?_)
    rintro r3 h
    refine z_po (pc' := 13) (st' := [.int r3]) (v := (some (.int r3))) (L' := [(4, some 1, fun _ => (I 4 1)), (4, some 3, fun _ => (I 4 3)), (4, some 5, fun _ => (I 4 5)), (5, none, (I 5)), (16, some 2, fun _ => (I 16 2)), (18, none, (I 18))]) (K' := []) zco_90 rfl rfl rfl rfl rfl rfl rfl rfl ?_
    refine g_if_eq (pc' := 16) hc rfl rfl (fun hx => ?_) (fun hx => ?_)
    · replace h := zwp_t h hx
      refine g_iload_n (pc' := 46)  hc rfl rfl rfl ?_
      refine g_iconst (pc' := 47) (v := (-1 : Int32)) hc rfl zki_m1 rfl ?_
      refine g_icmp_ne (pc' := 50) hc rfl rfl (fun hx => ?_) (fun hx => ?_)
      · replace h := zwp_f h hx
        refine g_aload_n (pc' := 53)  hc rfl rfl rfl rfl ?_
        refine g_iconst (pc' := 54) (v := (-1 : Int32)) hc rfl zki_m1 rfl ?_
        refine g_iload_n (pc' := 55)  hc rfl rfl rfl ?_
        refine g_isub (pc' := 56)  hc rfl rfl ?_
        refine z_virt (as := [.int ((-1 : Int32) - a3)]) (a := 16) (r := []) hc rfl rfl rfl rfl sh_16 rfl zco_44 rfl rfl rfl ?_
        refine ok_X5_add_16 (zdp hd rfl) (zwp_mono (zwp_bind h) ?_)
        rintro ⟨o4, o5⟩ h
        refine z_po (pc' := 59) (st' := []) (v := none) (L' := [(4, some 1, fun _ => (I 4 1)), (4, some 3, fun _ => (I 4 3)), (4, some 5, fun _ => (I 4 5)), (5, none, (I 5)), (16, some 2, fun _ => o5), (18, none, o4)]) (K' := []) zco_44 rfl rfl rfl rfl rfl rfl rfl rfl ?_
        refine g_aload_n (pc' := 60)  hc rfl rfl rfl rfl ?_
        refine g_iconst (pc' := 61) (v := (0 : Int32)) hc rfl zki_0 rfl ?_
        refine z_putI (pc' := 64) (L' := [(4, some 1, fun _ => (I 4 1)), (4, some 3, fun _ => (I 4 3)), (4, some 5, fun _ => (0 : Int32)), (5, none, (I 5)), (16, some 2, fun _ => o5), (18, none, o4)]) hc rfl rfl rfl sh_4 rfl zft_6_5 rfl (fun h => Bool.noConfusion h) rfl rfl rfl ?_
        refine g_iconst (pc' := 65) (v := (0 : Int32)) hc rfl zki_0 rfl ?_
        replace h := zws h
        exact g_ireturn hc rfl rfl rfl (fun _ => ⟨rfl, rfl⟩) h
      · replace h := zwp_t h hx
        refine g_iconst (pc' := 51) (v := (3 : Int32)) hc rfl zki_3 rfl ?_
        replace h := zws h
        exact g_ireturn hc rfl rfl rfl (fun _ => ⟨rfl, rfl⟩) h
    · replace h := zwp_f h hx
      refine g_aload_n (pc' := 17)  hc rfl rfl rfl rfl ?_
      refine z_getI (pc' := 20) (v := (I 4 3)) hc rfl rfl rfl sh_4 rfl rfl rfl ?_
      refine g_bipush (pc' := 22) (v := (6 : Int32)) hc rfl zkb_6 rfl ?_
      refine g_icmp_lt (pc' := 25) hc rfl rfl (fun hx => ?_) (fun hx => ?_)
      · replace h := zwp_t h hx
        refine g_aload_n (pc' := 28)  hc rfl rfl rfl rfl ?_
        refine g_bipush (pc' := 30) (v := (-13 : Int32)) hc rfl zkb_m13 rfl ?_
        refine z_virt (as := [.int (-13 : Int32)]) (a := 4) (r := []) hc rfl rfl rfl rfl sh_4 rfl zco_58 rfl rfl rfl ?_
        refine ok_X6_push_4 (zdp hd rfl) (zwp_mono (zwp_bind h) ?_)
        rintro ⟨o6, o7⟩ h
        refine z_po (pc' := 33) (st' := []) (v := none) (L' := [(4, some 1, fun _ => o7), (4, some 3, fun _ => (I 4 3)), (4, some 5, fun _ => (I 4 5)), (5, none, o6), (16, some 2, fun _ => (I 16 2)), (18, none, (I 18))]) (K' := []) zco_58 rfl rfl rfl rfl rfl rfl rfl rfl ?_
        refine g_aload_n (pc' := 34)  hc rfl rfl rfl rfl ?_
        refine g_dup (pc' := 35)  hc rfl rfl rfl ?_
        refine z_getI (pc' := 38) (v := (I 4 3)) hc rfl rfl rfl sh_4 rfl rfl rfl ?_
        refine g_iconst (pc' := 39) (v := (1 : Int32)) hc rfl zki_1 rfl ?_
        refine g_iadd (pc' := 40)  hc rfl rfl ?_
        refine z_putI (pc' := 43) (L' := [(4, some 1, fun _ => o7), (4, some 3, fun _ => (((I 4 3)) + (1 : Int32))), (4, some 5, fun _ => (I 4 5)), (5, none, o6), (16, some 2, fun _ => (I 16 2)), (18, none, (I 18))]) hc rfl rfl rfl sh_4 rfl zft_6_3 rfl (fun h => Bool.noConfusion h) rfl rfl rfl ?_
        refine g_iconst (pc' := 44) (v := (0 : Int32)) hc rfl zki_0 rfl ?_
        replace h := zws h
        exact g_ireturn hc rfl rfl rfl (fun _ => ⟨rfl, rfl⟩) h
      · replace h := zwp_f h hx
        refine g_iconst (pc' := 26) (v := (2 : Int32)) hc rfl zki_2 rfl ?_
        replace h := zws h
        exact g_ireturn hc rfl rfl rfl (fun _ => ⟨rfl, rfl⟩) h
set_option maxRecDepth 4000 in
theorem ok_X6_readPart_4_1_16 {p q : Nat} {I : pI} {J : pJ} {a3 : Int32} {Q : pQ} {d : Nat} (hd : 9 ≤ d) (h : zwp (f_X6_readPart a3 (I 4 4) (I 4 2) (I 4 3) (I 4 5) (I 18) (I 16 2) (I 2) (I 1 4) (I 1 5) (I 1 6) (I 1 3) (I 5) (I 4 1)) (fun w => match w with | (r, o0, o1, o2, o3, o4, o5, o6, o7) => Q (.inl (some (.int r))) (zS p q I [(4, some 1, fun _ => o7), (4, some 2, fun _ => o1), (4, some 3, fun _ => o2), (4, some 4, fun _ => o0), (4, some 5, fun _ => o3), (5, none, o6), (16, some 2, fun _ => o5), (18, none, o4)] J []))) : pm_call M cost zext d 51 [.ref 4, .ref 1, .ref 16, .int a3] (pm_st 108 (shp p q) I J) Q := by
  obtain ⟨d, rfl⟩ := zd1 hd rfl
  have hc := pm_call_m (M := M) (cost := cost) zext_m d
  refine z_in (L := [(4, some 1, fun _ => (I 4 1)), (4, some 2, fun _ => (I 4 2)), (4, some 3, fun _ => (I 4 3)), (4, some 4, fun _ => (I 4 4)), (4, some 5, fun _ => (I 4 5)), (5, none, (I 5)), (16, some 2, fun _ => (I 16 2)), (18, none, (I 18))]) (K := []) (ls := [some (.ref 4), some (.ref 1), some (.ref 16), some (.int a3), none]) zmt_51 zco_51 rfl rfl (zid_s (zid_s (zid_s (zid_s (zid_s (zid_a (zid_s (zid_a zid_n)))))))) zid_n ?_
  delta f_X6_readPart at h
  refine g_aload_n (pc' := 1)  hc rfl rfl rfl rfl ?_
  refine g_bipush (pc' := 3) (v := (40 : Int32)) hc rfl zkb_40 rfl ?_
  refine z_virt (as := [.int (40 : Int32)]) (a := 1) (r := []) hc rfl rfl rfl rfl sh_1 rfl zco_88 rfl rfl rfl ?_
  refine ok_X9_isSign_1 (zdp hd rfl) (zwp_mono (zwp_bind h) ?_)
  rintro r1 h
  refine z_po (pc' := 6) (st' := [.int r1]) (v := (some (.int r1))) (L' := [(4, some 1, fun _ => (I 4 1)), (4, some 2, fun _ => (I 4 2)), (4, some 3, fun _ => (I 4 3)), (4, some 4, fun _ => (I 4 4)), (4, some 5, fun _ => (I 4 5)), (5, none, (I 5)), (16, some 2, fun _ => (I 16 2)), (18, none, (I 18))]) (K' := []) zco_88 rfl rfl rfl rfl rfl rfl rfl rfl ?_
  refine g_istore (pc' := 8) (ls1 := [some (.ref 4), some (.ref 1), some (.ref 16), some (.int a3), some (.int r1)]) hc rfl (zlt rfl) rfl rfl ?_
  refine g_iload (pc' := 10)  hc rfl rfl rfl ?_
  refine g_if_ne (pc' := 13) hc rfl rfl (fun hx => ?_) (fun hx => ?_)
  · replace h := zwp_f h hx
    refine g_aload_n (pc' := 32)  hc rfl rfl rfl rfl ?_
    refine z_getI (pc' := 35) (v := (I 4 2)) hc rfl rfl rfl sh_4 rfl rfl rfl ?_
    refine g_bipush (pc' := 37) (v := (6 : Int32)) hc rfl zkb_6 rfl ?_
    refine g_icmp_lt (pc' := 40) hc rfl rfl (fun hx => ?_) (fun hx => ?_)
    · replace h := zwp_t h hx
      refine g_iload (pc' := 44)  hc rfl rfl rfl ?_
      refine g_if_eq (pc' := 47) hc rfl rfl (fun hx => ?_) (fun hx => ?_)
      · replace h := zwp_t h hx
        refine g_aload_n (pc' := 71)  hc rfl rfl rfl rfl ?_
        refine z_getI (pc' := 74) (v := (I 1 5)) hc rfl rfl rfl sh_1 rfl rfl rfl ?_
        refine g_iconst (pc' := 75) (v := (2 : Int32)) hc rfl zki_2 rfl ?_
        refine g_icmp_ne (pc' := 78) hc rfl rfl (fun hx => ?_) (fun hx => ?_)
        · replace h := zwp_f h hx
          refine g_aload_n (pc' := 88)  hc rfl rfl rfl rfl ?_
          refine g_aload_n (pc' := 89)  hc rfl rfl rfl rfl ?_
          refine g_aload_n (pc' := 90)  hc rfl rfl rfl rfl ?_
          refine g_aload_n (pc' := 91)  hc rfl rfl rfl rfl ?_
          refine g_iload_n (pc' := 92)  hc rfl rfl rfl ?_
          refine z_stat (as := [.ref 1, .int a3]) (r := [.ref 16, .ref 1, .ref 4]) hc rfl rfl rfl rfl zco_54 rfl rfl rfl ?_
          refine ok_X6_valueOf_1 (zdp hd rfl) (zwp_mono (zwp_bind h) ?_)
          rintro r2 h
          refine z_po (pc' := 95) (st' := [.int r2, .ref 16, .ref 1, .ref 4]) (v := (some (.int r2))) (L' := [(4, some 1, fun _ => (I 4 1)), (4, some 2, fun _ => (I 4 2)), (4, some 3, fun _ => (I 4 3)), (4, some 4, fun _ => (I 4 4)), (4, some 5, fun _ => (I 4 5)), (5, none, (I 5)), (16, some 2, fun _ => (I 16 2)), (18, none, (I 18))]) (K' := []) zco_54 rfl rfl rfl rfl rfl rfl rfl rfl ?_
          refine z_virt (as := [.ref 1, .ref 16, .int r2]) (a := 4) (r := []) hc rfl rfl rfl rfl sh_4 rfl zco_53 rfl rfl rfl ?_
          refine ok_X6_readWord_4_1_16 (zdp hd rfl) (zwp_mono (zwp_bind h) ?_)
          rintro ⟨r9, o3, o4, o5, o6, o7, o8⟩ h
          refine z_po (pc' := 98) (st' := [.int r9]) (v := (some (.int r9))) (L' := [(4, some 1, fun _ => o8), (4, some 2, fun _ => (I 4 2)), (4, some 3, fun _ => o3), (4, some 4, fun _ => (I 4 4)), (4, some 5, fun _ => o4), (5, none, o7), (16, some 2, fun _ => o6), (18, none, o5)]) (K' := []) zco_53 rfl rfl rfl rfl rfl rfl rfl rfl ?_
          replace h := zws h
          exact g_ireturn hc rfl rfl rfl (fun _ => ⟨rfl, rfl⟩) h
        · replace h := zwp_t h hx
          refine g_aload_n (pc' := 79)  hc rfl rfl rfl rfl ?_
          refine g_aload_n (pc' := 80)  hc rfl rfl rfl rfl ?_
          refine g_aload_n (pc' := 81)  hc rfl rfl rfl rfl ?_
          refine z_virt (as := [.ref 1, .ref 16]) (a := 4) (r := []) hc rfl rfl rfl rfl sh_4 rfl zco_52 rfl rfl rfl ?_
          refine ok_X6_readNumber_4_1_16 (zdp hd rfl) (zwp_mono (zwp_bind h) ?_)
          rintro ⟨r13, o10, o11, o12⟩ h
          refine z_po (pc' := 84) (st' := [.int r13]) (v := (some (.int r13))) (L' := [(4, some 1, fun _ => (I 4 1)), (4, some 2, fun _ => (I 4 2)), (4, some 3, fun _ => (I 4 3)), (4, some 4, fun _ => (I 4 4)), (4, some 5, fun _ => o10), (5, none, (I 5)), (16, some 2, fun _ => o12), (18, none, o11)]) (K' := []) zco_52 rfl rfl rfl rfl rfl rfl rfl rfl ?_
          refine g_goto hc rfl ?_
          replace h := zws h
          exact g_ireturn hc rfl rfl rfl (fun _ => ⟨rfl, rfl⟩) h
      · replace h := zwp_f h hx
        refine g_aload_n (pc' := 48)  hc rfl rfl rfl rfl ?_
        refine g_bipush (pc' := 50) (v := (-20 : Int32)) hc rfl zkb_m20 rfl ?_
        refine z_virt (as := [.int (-20 : Int32)]) (a := 4) (r := []) hc rfl rfl rfl rfl sh_4 rfl zco_58 rfl rfl rfl ?_
        refine ok_X6_push_4 (zdp hd rfl) (zwp_mono (zwp_bind h) ?_)
        rintro ⟨o14, o15⟩ h
        refine z_po (pc' := 53) (st' := []) (v := none) (L' := [(4, some 1, fun _ => o15), (4, some 2, fun _ => (I 4 2)), (4, some 3, fun _ => (I 4 3)), (4, some 4, fun _ => (I 4 4)), (4, some 5, fun _ => (I 4 5)), (5, none, o14), (16, some 2, fun _ => (I 16 2)), (18, none, (I 18))]) (K' := []) zco_58 rfl rfl rfl rfl rfl rfl rfl rfl ?_
        refine g_aload_n (pc' := 54)  hc rfl rfl rfl rfl ?_
        refine g_dup (pc' := 55)  hc rfl rfl rfl ?_
        refine z_getI (pc' := 58) (v := (I 4 2)) hc rfl rfl rfl sh_4 rfl rfl rfl ?_
        refine g_iconst (pc' := 59) (v := (1 : Int32)) hc rfl zki_1 rfl ?_
        refine g_iadd (pc' := 60)  hc rfl rfl ?_
        refine z_putI (pc' := 63) (L' := [(4, some 1, fun _ => o15), (4, some 2, fun _ => (((I 4 2)) + (1 : Int32))), (4, some 3, fun _ => (I 4 3)), (4, some 4, fun _ => (I 4 4)), (4, some 5, fun _ => (I 4 5)), (5, none, o14), (16, some 2, fun _ => (I 16 2)), (18, none, (I 18))]) hc rfl rfl rfl sh_4 rfl zft_6_2 rfl (fun h => Bool.noConfusion h) rfl rfl rfl ?_
        refine g_aload_n (pc' := 64)  hc rfl rfl rfl rfl ?_
        refine g_iconst (pc' := 65) (v := (1 : Int32)) hc rfl zki_1 rfl ?_
        refine z_virt (as := [.int (1 : Int32)]) (a := 4) (r := []) hc rfl rfl rfl rfl sh_4 rfl zco_50 rfl rfl rfl ?_
        refine ok_X6_beginPart_4 (zdp hd rfl) (zwp_mono (zwp_bind h) ?_)
        rintro ⟨o16, o17, o18⟩ h
        refine z_po (pc' := 68) (st' := []) (v := none) (L' := [(4, some 1, fun _ => o15), (4, some 2, fun _ => (((I 4 2)) + (1 : Int32))), (4, some 3, fun _ => o17), (4, some 4, fun _ => o16), (4, some 5, fun _ => o18), (5, none, o14), (16, some 2, fun _ => (I 16 2)), (18, none, (I 18))]) (K' := []) zco_50 rfl rfl rfl rfl rfl rfl rfl rfl ?_
        refine g_iconst (pc' := 69) (v := (0 : Int32)) hc rfl zki_0 rfl ?_
        replace h := zws h
        exact g_ireturn hc rfl rfl rfl (fun _ => ⟨rfl, rfl⟩) h
    · replace h := zwp_f h hx
      refine g_iconst (pc' := 41) (v := (2 : Int32)) hc rfl zki_2 rfl ?_
      replace h := zws h
      exact g_ireturn hc rfl rfl rfl (fun _ => ⟨rfl, rfl⟩) h
  · replace h := zwp_t h hx
    refine g_aload_n (pc' := 14)  hc rfl rfl rfl rfl ?_
    refine z_getI (pc' := 17) (v := (I 1 5)) hc rfl rfl rfl sh_1 rfl rfl rfl ?_
    refine g_iconst (pc' := 18) (v := (2 : Int32)) hc rfl zki_2 rfl ?_
    refine g_icmp_eq (pc' := 21) hc rfl rfl (fun hx => ?_) (fun hx => ?_)
    · replace h := zwp_t h hx
      refine g_aload_n (pc' := 32)  hc rfl rfl rfl rfl ?_
      refine z_getI (pc' := 35) (v := (I 4 2)) hc rfl rfl rfl sh_4 rfl rfl rfl ?_
      refine g_bipush (pc' := 37) (v := (6 : Int32)) hc rfl zkb_6 rfl ?_
      refine g_icmp_lt (pc' := 40) hc rfl rfl (fun hx => ?_) (fun hx => ?_)
      · replace h := zwp_t h hx
        refine g_iload (pc' := 44)  hc rfl rfl rfl ?_
        refine g_if_eq (pc' := 47) hc rfl rfl (fun hx => ?_) (fun hx => ?_)
        · replace h := zwp_t h hx
          refine g_aload_n (pc' := 71)  hc rfl rfl rfl rfl ?_
          refine z_getI (pc' := 74) (v := (I 1 5)) hc rfl rfl rfl sh_1 rfl rfl rfl ?_
          refine g_iconst (pc' := 75) (v := (2 : Int32)) hc rfl zki_2 rfl ?_
          refine g_icmp_ne (pc' := 78) hc rfl rfl (fun hx => ?_) (fun hx => ?_)
          · replace h := zwp_f h hx
            refine g_aload_n (pc' := 88)  hc rfl rfl rfl rfl ?_
            refine g_aload_n (pc' := 89)  hc rfl rfl rfl rfl ?_
            refine g_aload_n (pc' := 90)  hc rfl rfl rfl rfl ?_
            refine g_aload_n (pc' := 91)  hc rfl rfl rfl rfl ?_
            refine g_iload_n (pc' := 92)  hc rfl rfl rfl ?_
            refine z_stat (as := [.ref 1, .int a3]) (r := [.ref 16, .ref 1, .ref 4]) hc rfl rfl rfl rfl zco_54 rfl rfl rfl ?_
            refine ok_X6_valueOf_1 (zdp hd rfl) (zwp_mono (zwp_bind h) ?_)
            rintro r19 h
            refine z_po (pc' := 95) (st' := [.int r19, .ref 16, .ref 1, .ref 4]) (v := (some (.int r19))) (L' := [(4, some 1, fun _ => (I 4 1)), (4, some 2, fun _ => (I 4 2)), (4, some 3, fun _ => (I 4 3)), (4, some 4, fun _ => (I 4 4)), (4, some 5, fun _ => (I 4 5)), (5, none, (I 5)), (16, some 2, fun _ => (I 16 2)), (18, none, (I 18))]) (K' := []) zco_54 rfl rfl rfl rfl rfl rfl rfl rfl ?_
            refine z_virt (as := [.ref 1, .ref 16, .int r19]) (a := 4) (r := []) hc rfl rfl rfl rfl sh_4 rfl zco_53 rfl rfl rfl ?_
            refine ok_X6_readWord_4_1_16 (zdp hd rfl) (zwp_mono (zwp_bind h) ?_)
            rintro ⟨r26, o20, o21, o22, o23, o24, o25⟩ h
            refine z_po (pc' := 98) (st' := [.int r26]) (v := (some (.int r26))) (L' := [(4, some 1, fun _ => o25), (4, some 2, fun _ => (I 4 2)), (4, some 3, fun _ => o20), (4, some 4, fun _ => (I 4 4)), (4, some 5, fun _ => o21), (5, none, o24), (16, some 2, fun _ => o23), (18, none, o22)]) (K' := []) zco_53 rfl rfl rfl rfl rfl rfl rfl rfl ?_
            replace h := zws h
            exact g_ireturn hc rfl rfl rfl (fun _ => ⟨rfl, rfl⟩) h
          · replace h := zwp_t h hx
            refine g_aload_n (pc' := 79)  hc rfl rfl rfl rfl ?_
            refine g_aload_n (pc' := 80)  hc rfl rfl rfl rfl ?_
            refine g_aload_n (pc' := 81)  hc rfl rfl rfl rfl ?_
            refine z_virt (as := [.ref 1, .ref 16]) (a := 4) (r := []) hc rfl rfl rfl rfl sh_4 rfl zco_52 rfl rfl rfl ?_
            refine ok_X6_readNumber_4_1_16 (zdp hd rfl) (zwp_mono (zwp_bind h) ?_)
            rintro ⟨r30, o27, o28, o29⟩ h
            refine z_po (pc' := 84) (st' := [.int r30]) (v := (some (.int r30))) (L' := [(4, some 1, fun _ => (I 4 1)), (4, some 2, fun _ => (I 4 2)), (4, some 3, fun _ => (I 4 3)), (4, some 4, fun _ => (I 4 4)), (4, some 5, fun _ => o27), (5, none, (I 5)), (16, some 2, fun _ => o29), (18, none, o28)]) (K' := []) zco_52 rfl rfl rfl rfl rfl rfl rfl rfl ?_
            refine g_goto hc rfl ?_
            replace h := zws h
            exact g_ireturn hc rfl rfl rfl (fun _ => ⟨rfl, rfl⟩) h
        · replace h := zwp_f h hx
          refine g_aload_n (pc' := 48)  hc rfl rfl rfl rfl ?_
          refine g_bipush (pc' := 50) (v := (-20 : Int32)) hc rfl zkb_m20 rfl ?_
          refine z_virt (as := [.int (-20 : Int32)]) (a := 4) (r := []) hc rfl rfl rfl rfl sh_4 rfl zco_58 rfl rfl rfl ?_
          refine ok_X6_push_4 (zdp hd rfl) (zwp_mono (zwp_bind h) ?_)
          rintro ⟨o31, o32⟩ h
          refine z_po (pc' := 53) (st' := []) (v := none) (L' := [(4, some 1, fun _ => o32), (4, some 2, fun _ => (I 4 2)), (4, some 3, fun _ => (I 4 3)), (4, some 4, fun _ => (I 4 4)), (4, some 5, fun _ => (I 4 5)), (5, none, o31), (16, some 2, fun _ => (I 16 2)), (18, none, (I 18))]) (K' := []) zco_58 rfl rfl rfl rfl rfl rfl rfl rfl ?_
          refine g_aload_n (pc' := 54)  hc rfl rfl rfl rfl ?_
          refine g_dup (pc' := 55)  hc rfl rfl rfl ?_
          refine z_getI (pc' := 58) (v := (I 4 2)) hc rfl rfl rfl sh_4 rfl rfl rfl ?_
          refine g_iconst (pc' := 59) (v := (1 : Int32)) hc rfl zki_1 rfl ?_
          refine g_iadd (pc' := 60)  hc rfl rfl ?_
          refine z_putI (pc' := 63) (L' := [(4, some 1, fun _ => o32), (4, some 2, fun _ => (((I 4 2)) + (1 : Int32))), (4, some 3, fun _ => (I 4 3)), (4, some 4, fun _ => (I 4 4)), (4, some 5, fun _ => (I 4 5)), (5, none, o31), (16, some 2, fun _ => (I 16 2)), (18, none, (I 18))]) hc rfl rfl rfl sh_4 rfl zft_6_2 rfl (fun h => Bool.noConfusion h) rfl rfl rfl ?_
          refine g_aload_n (pc' := 64)  hc rfl rfl rfl rfl ?_
          refine g_iconst (pc' := 65) (v := (1 : Int32)) hc rfl zki_1 rfl ?_
          refine z_virt (as := [.int (1 : Int32)]) (a := 4) (r := []) hc rfl rfl rfl rfl sh_4 rfl zco_50 rfl rfl rfl ?_
          refine ok_X6_beginPart_4 (zdp hd rfl) (zwp_mono (zwp_bind h) ?_)
          rintro ⟨o33, o34, o35⟩ h
          refine z_po (pc' := 68) (st' := []) (v := none) (L' := [(4, some 1, fun _ => o32), (4, some 2, fun _ => (((I 4 2)) + (1 : Int32))), (4, some 3, fun _ => o34), (4, some 4, fun _ => o33), (4, some 5, fun _ => o35), (5, none, o31), (16, some 2, fun _ => (I 16 2)), (18, none, (I 18))]) (K' := []) zco_50 rfl rfl rfl rfl rfl rfl rfl rfl ?_
          refine g_iconst (pc' := 69) (v := (0 : Int32)) hc rfl zki_0 rfl ?_
          replace h := zws h
          exact g_ireturn hc rfl rfl rfl (fun _ => ⟨rfl, rfl⟩) h
      · replace h := zwp_f h hx
        refine g_iconst (pc' := 41) (v := (2 : Int32)) hc rfl zki_2 rfl ?_
        replace h := zws h
        exact g_ireturn hc rfl rfl rfl (fun _ => ⟨rfl, rfl⟩) h
    · replace h := zwp_f h hx
      refine g_aload_n (pc' := 22)  hc rfl rfl rfl rfl ?_
      refine z_getI (pc' := 25) (v := (I 1 5)) hc rfl rfl rfl sh_1 rfl rfl rfl ?_
      refine g_iconst (pc' := 26) (v := (1 : Int32)) hc rfl zki_1 rfl ?_
      refine g_icmp_eq (pc' := 29) hc rfl rfl (fun hx => ?_) (fun hx => ?_)
      · replace h := zwp_t h hx
        refine g_aload_n (pc' := 32)  hc rfl rfl rfl rfl ?_
        refine z_getI (pc' := 35) (v := (I 4 2)) hc rfl rfl rfl sh_4 rfl rfl rfl ?_
        refine g_bipush (pc' := 37) (v := (6 : Int32)) hc rfl zkb_6 rfl ?_
        refine g_icmp_lt (pc' := 40) hc rfl rfl (fun hx => ?_) (fun hx => ?_)
        · replace h := zwp_t h hx
          refine g_iload (pc' := 44)  hc rfl rfl rfl ?_
          refine g_if_eq (pc' := 47) hc rfl rfl (fun hx => ?_) (fun hx => ?_)
          · replace h := zwp_t h hx
            refine g_aload_n (pc' := 71)  hc rfl rfl rfl rfl ?_
            refine z_getI (pc' := 74) (v := (I 1 5)) hc rfl rfl rfl sh_1 rfl rfl rfl ?_
            refine g_iconst (pc' := 75) (v := (2 : Int32)) hc rfl zki_2 rfl ?_
            refine g_icmp_ne (pc' := 78) hc rfl rfl (fun hx => ?_) (fun hx => ?_)
            · replace h := zwp_f h hx
              refine g_aload_n (pc' := 88)  hc rfl rfl rfl rfl ?_
              refine g_aload_n (pc' := 89)  hc rfl rfl rfl rfl ?_
              refine g_aload_n (pc' := 90)  hc rfl rfl rfl rfl ?_
              refine g_aload_n (pc' := 91)  hc rfl rfl rfl rfl ?_
              refine g_iload_n (pc' := 92)  hc rfl rfl rfl ?_
              refine z_stat (as := [.ref 1, .int a3]) (r := [.ref 16, .ref 1, .ref 4]) hc rfl rfl rfl rfl zco_54 rfl rfl rfl ?_
              refine ok_X6_valueOf_1 (zdp hd rfl) (zwp_mono (zwp_bind h) ?_)
              rintro r36 h
              refine z_po (pc' := 95) (st' := [.int r36, .ref 16, .ref 1, .ref 4]) (v := (some (.int r36))) (L' := [(4, some 1, fun _ => (I 4 1)), (4, some 2, fun _ => (I 4 2)), (4, some 3, fun _ => (I 4 3)), (4, some 4, fun _ => (I 4 4)), (4, some 5, fun _ => (I 4 5)), (5, none, (I 5)), (16, some 2, fun _ => (I 16 2)), (18, none, (I 18))]) (K' := []) zco_54 rfl rfl rfl rfl rfl rfl rfl rfl ?_
              refine z_virt (as := [.ref 1, .ref 16, .int r36]) (a := 4) (r := []) hc rfl rfl rfl rfl sh_4 rfl zco_53 rfl rfl rfl ?_
              refine ok_X6_readWord_4_1_16 (zdp hd rfl) (zwp_mono (zwp_bind h) ?_)
              rintro ⟨r43, o37, o38, o39, o40, o41, o42⟩ h
              refine z_po (pc' := 98) (st' := [.int r43]) (v := (some (.int r43))) (L' := [(4, some 1, fun _ => o42), (4, some 2, fun _ => (I 4 2)), (4, some 3, fun _ => o37), (4, some 4, fun _ => (I 4 4)), (4, some 5, fun _ => o38), (5, none, o41), (16, some 2, fun _ => o40), (18, none, o39)]) (K' := []) zco_53 rfl rfl rfl rfl rfl rfl rfl rfl ?_
              replace h := zws h
              exact g_ireturn hc rfl rfl rfl (fun _ => ⟨rfl, rfl⟩) h
            · replace h := zwp_t h hx
              refine g_aload_n (pc' := 79)  hc rfl rfl rfl rfl ?_
              refine g_aload_n (pc' := 80)  hc rfl rfl rfl rfl ?_
              refine g_aload_n (pc' := 81)  hc rfl rfl rfl rfl ?_
              refine z_virt (as := [.ref 1, .ref 16]) (a := 4) (r := []) hc rfl rfl rfl rfl sh_4 rfl zco_52 rfl rfl rfl ?_
              refine ok_X6_readNumber_4_1_16 (zdp hd rfl) (zwp_mono (zwp_bind h) ?_)
              rintro ⟨r47, o44, o45, o46⟩ h
              refine z_po (pc' := 84) (st' := [.int r47]) (v := (some (.int r47))) (L' := [(4, some 1, fun _ => (I 4 1)), (4, some 2, fun _ => (I 4 2)), (4, some 3, fun _ => (I 4 3)), (4, some 4, fun _ => (I 4 4)), (4, some 5, fun _ => o44), (5, none, (I 5)), (16, some 2, fun _ => o46), (18, none, o45)]) (K' := []) zco_52 rfl rfl rfl rfl rfl rfl rfl rfl ?_
              refine g_goto hc rfl ?_
              replace h := zws h
              exact g_ireturn hc rfl rfl rfl (fun _ => ⟨rfl, rfl⟩) h
          · replace h := zwp_f h hx
            refine g_aload_n (pc' := 48)  hc rfl rfl rfl rfl ?_
            refine g_bipush (pc' := 50) (v := (-20 : Int32)) hc rfl zkb_m20 rfl ?_
            refine z_virt (as := [.int (-20 : Int32)]) (a := 4) (r := []) hc rfl rfl rfl rfl sh_4 rfl zco_58 rfl rfl rfl ?_
            refine ok_X6_push_4 (zdp hd rfl) (zwp_mono (zwp_bind h) ?_)
            rintro ⟨o48, o49⟩ h
            refine z_po (pc' := 53) (st' := []) (v := none) (L' := [(4, some 1, fun _ => o49), (4, some 2, fun _ => (I 4 2)), (4, some 3, fun _ => (I 4 3)), (4, some 4, fun _ => (I 4 4)), (4, some 5, fun _ => (I 4 5)), (5, none, o48), (16, some 2, fun _ => (I 16 2)), (18, none, (I 18))]) (K' := []) zco_58 rfl rfl rfl rfl rfl rfl rfl rfl ?_
            refine g_aload_n (pc' := 54)  hc rfl rfl rfl rfl ?_
            refine g_dup (pc' := 55)  hc rfl rfl rfl ?_
            refine z_getI (pc' := 58) (v := (I 4 2)) hc rfl rfl rfl sh_4 rfl rfl rfl ?_
            refine g_iconst (pc' := 59) (v := (1 : Int32)) hc rfl zki_1 rfl ?_
            refine g_iadd (pc' := 60)  hc rfl rfl ?_
            refine z_putI (pc' := 63) (L' := [(4, some 1, fun _ => o49), (4, some 2, fun _ => (((I 4 2)) + (1 : Int32))), (4, some 3, fun _ => (I 4 3)), (4, some 4, fun _ => (I 4 4)), (4, some 5, fun _ => (I 4 5)), (5, none, o48), (16, some 2, fun _ => (I 16 2)), (18, none, (I 18))]) hc rfl rfl rfl sh_4 rfl zft_6_2 rfl (fun h => Bool.noConfusion h) rfl rfl rfl ?_
            refine g_aload_n (pc' := 64)  hc rfl rfl rfl rfl ?_
            refine g_iconst (pc' := 65) (v := (1 : Int32)) hc rfl zki_1 rfl ?_
            refine z_virt (as := [.int (1 : Int32)]) (a := 4) (r := []) hc rfl rfl rfl rfl sh_4 rfl zco_50 rfl rfl rfl ?_
            refine ok_X6_beginPart_4 (zdp hd rfl) (zwp_mono (zwp_bind h) ?_)
            rintro ⟨o50, o51, o52⟩ h
            refine z_po (pc' := 68) (st' := []) (v := none) (L' := [(4, some 1, fun _ => o49), (4, some 2, fun _ => (((I 4 2)) + (1 : Int32))), (4, some 3, fun _ => o51), (4, some 4, fun _ => o50), (4, some 5, fun _ => o52), (5, none, o48), (16, some 2, fun _ => (I 16 2)), (18, none, (I 18))]) (K' := []) zco_50 rfl rfl rfl rfl rfl rfl rfl rfl ?_
            refine g_iconst (pc' := 69) (v := (0 : Int32)) hc rfl zki_0 rfl ?_
            replace h := zws h
            exact g_ireturn hc rfl rfl rfl (fun _ => ⟨rfl, rfl⟩) h
        · replace h := zwp_f h hx
          refine g_iconst (pc' := 41) (v := (2 : Int32)) hc rfl zki_2 rfl ?_
          replace h := zws h
          exact g_ireturn hc rfl rfl rfl (fun _ => ⟨rfl, rfl⟩) h
      · replace h := zwp_f h hx
        refine g_iconst (pc' := 30) (v := (1 : Int32)) hc rfl zki_1 rfl ?_
        replace h := zws h
        exact g_ireturn hc rfl rfl rfl (fun _ => ⟨rfl, rfl⟩) h
set_option maxRecDepth 4000 in
theorem ok_X6_release_4_16 {p q : Nat} {I : pI} {J : pJ} {a2 : Int32} {Q : pQ} {d : Nat} (hd : 2 ≤ d) (h : zwp (f_X6_release a2 (I 18) (I 16 2) (I 5) (I 4 1)) (fun w => match w with | (o0, o1, o2) => Q (.inl none) (zS p q I [(4, some 1, fun _ => o2), (16, some 2, fun _ => o1), (18, none, o0)] J []))) : pm_call M cost zext d 59 [.ref 4, .ref 16, .int a2] (pm_st 108 (shp p q) I J) Q := by
  obtain ⟨d, rfl⟩ := zd1 hd rfl
  have hc := pm_call_m (M := M) (cost := cost) zext_m d
  refine z_in (L := [(4, some 1, fun _ => (I 4 1)), (16, some 2, fun _ => (I 16 2)), (18, none, (I 18))]) (K := []) (ls := [some (.ref 4), some (.ref 16), some (.int a2)]) zmt_59 zco_59 rfl rfl (zid_s (zid_s (zid_a zid_n))) zid_n ?_
  delta f_X6_release at h
  refine zjn (G := (fun (g : (Nat → Int32) × Int32 × Int32) => match g with | (y4, y5, y6) => pm_ev C_X6_release (d + 1) (pm_call M cost zext d) cost (false, false) 108 0 0 Q 51 [some (.ref 4), some (.ref 16), some (.int a2)] [] 0 0 (zS p q I [(4, some 1, fun _ => y6), (16, some 2, fun _ => y5), (18, none, y4)] J []))) (zwp_bind h) ?_ (fun h => ?_)
  · rintro ⟨y4, y5, y6⟩ h
    replace h := zws h
    exact g_return hc rfl rfl (fun _ => ⟨rfl, rfl⟩) h
  refine zitr_ev (G := (fun (g : (Nat → Int32) × Int32 × Int32) => match g with | (x1, x2, x3) => pm_ev C_X6_release (d + 1) (pm_call M cost zext d) cost (false, false) 108 0 0 Q 0 [some (.ref 4), some (.ref 16), some (.int a2)] [] 0 0 (zS p q I [(4, some 1, fun _ => x3), (16, some 2, fun _ => x2), (18, none, x1)] J []))) ?_ zFU ((I 18), (I 16 2), (I 4 1)) h
  rintro ⟨x1, x2, x3⟩ h
  refine g_aload_n (pc' := 1)  hc rfl rfl rfl rfl ?_
  refine z_getI (pc' := 4) (v := x3) hc rfl rfl rfl sh_4 rfl rfl rfl ?_
  refine g_if_le (pc' := 7) hc rfl rfl (fun hx => ?_) (fun hx => ?_)
  · replace h := zwp_t h hx
    replace h := zwp_r h
    exact h
  · replace h := zwp_f h hx
    refine g_aload_n (pc' := 8)  hc rfl rfl rfl rfl ?_
    refine z_getR (pc' := 11)  hc rfl rfl rfl sh_4 rfl rfl ?_
    refine g_aload_n (pc' := 12)  hc rfl rfl rfl rfl ?_
    refine z_getI (pc' := 15) (v := x3) hc rfl rfl rfl sh_4 rfl rfl rfl ?_
    refine g_iconst (pc' := 16) (v := (1 : Int32)) hc rfl zki_1 rfl ?_
    refine g_isub (pc' := 17)  hc rfl rfl ?_
    have hb := (zwp_bnd h).1
    replace h := (zwp_bnd h).2
    refine z_iaload (pc' := 18) (v := (((I 5)) (x3 - (1 : Int32)).toNatClampNeg)) hc rfl rfl sh_5 hb rfl rfl ?_
    refine z_stat (as := [.int (((I 5)) (x3 - (1 : Int32)).toNatClampNeg)]) (r := []) hc rfl rfl rfl rfl zco_57 rfl rfl rfl ?_
    refine ok_X6_rankOf (zdp hd rfl) (zwp_mono (zwp_bind h) ?_)
    rintro r7 h
    refine z_po (pc' := 21) (st' := [.int r7]) (v := (some (.int r7))) (L' := [(4, some 1, fun _ => x3), (16, some 2, fun _ => x2), (18, none, x1)]) (K' := []) zco_57 rfl rfl rfl rfl rfl rfl rfl rfl ?_
    refine g_iload_n (pc' := 22)  hc rfl rfl rfl ?_
    refine g_icmp_lt (pc' := 25) hc rfl rfl (fun hx => ?_) (fun hx => ?_)
    · replace h := zwp_t h hx
      replace h := zwp_r h
      exact h
    · replace h := zwp_f h hx
      refine g_aload_n (pc' := 26)  hc rfl rfl rfl rfl ?_
      refine g_dup (pc' := 27)  hc rfl rfl rfl ?_
      refine z_getI (pc' := 30) (v := x3) hc rfl rfl rfl sh_4 rfl rfl rfl ?_
      refine g_iconst (pc' := 31) (v := (1 : Int32)) hc rfl zki_1 rfl ?_
      refine g_isub (pc' := 32)  hc rfl rfl ?_
      refine z_putI (pc' := 35) (L' := [(4, some 1, fun _ => (x3 - (1 : Int32))), (16, some 2, fun _ => x2), (18, none, x1)]) hc rfl rfl rfl sh_4 rfl zft_6_1 rfl (fun h => Bool.noConfusion h) rfl rfl rfl ?_
      refine g_aload_n (pc' := 36)  hc rfl rfl rfl rfl ?_
      refine g_aload_n (pc' := 37)  hc rfl rfl rfl rfl ?_
      refine z_getR (pc' := 40)  hc rfl rfl rfl sh_4 rfl rfl ?_
      refine g_aload_n (pc' := 41)  hc rfl rfl rfl rfl ?_
      refine z_getI (pc' := 44) (v := (x3 - (1 : Int32))) hc rfl rfl rfl sh_4 rfl rfl rfl ?_
      have hb := (zwp_bnd h).1
      replace h := (zwp_bnd h).2
      refine z_iaload (pc' := 45) (v := (((I 5)) (x3 - (1 : Int32)).toNatClampNeg)) hc rfl rfl sh_5 hb rfl rfl ?_
      refine z_virt (as := [.int (((I 5)) (x3 - (1 : Int32)).toNatClampNeg)]) (a := 16) (r := []) hc rfl rfl rfl rfl sh_16 rfl zco_44 rfl rfl rfl ?_
      refine ok_X5_add_16 (zdp hd rfl) (zwp_mono (zwp_bind h) ?_)
      rintro ⟨o8, o9⟩ h
      refine z_po (pc' := 48) (st' := []) (v := none) (L' := [(4, some 1, fun _ => (x3 - (1 : Int32))), (16, some 2, fun _ => o9), (18, none, o8)]) (K' := []) zco_44 rfl rfl rfl rfl rfl rfl rfl rfl ?_
      refine g_goto hc rfl ?_
      replace h := zwp_l h
      exact h
set_option maxRecDepth 4000 in
theorem ok_X6_readOperator_4_1_16 {p q : Nat} {I : pI} {J : pJ} {Q : pQ} {d : Nat} (hd : 9 ≤ d) (h : zwp (f_X6_readOperator (I 4 4) (I 4 2) (I 4 3) (I 4 5) (I 18) (I 16 2) (I 2) (I 1 4) (I 1 5) (I 1 3) (I 5) (I 4 1)) (fun w => match w with | (r, o0, o1, o2, o3, o4, o5, o6, o7) => Q (.inl (some (.int r))) (zS p q I [(4, some 1, fun _ => o7), (4, some 2, fun _ => o1), (4, some 3, fun _ => o2), (4, some 4, fun _ => o0), (4, some 5, fun _ => o3), (5, none, o6), (16, some 2, fun _ => o5), (18, none, o4)] J []))) : pm_call M cost zext d 55 [.ref 4, .ref 1, .ref 16] (pm_st 108 (shp p q) I J) Q := by
  obtain ⟨d, rfl⟩ := zd1 hd rfl
  have hc := pm_call_m (M := M) (cost := cost) zext_m d
  refine z_in (L := [(4, some 1, fun _ => (I 4 1)), (4, some 2, fun _ => (I 4 2)), (4, some 3, fun _ => (I 4 3)), (4, some 4, fun _ => (I 4 4)), (4, some 5, fun _ => (I 4 5)), (5, none, (I 5)), (16, some 2, fun _ => (I 16 2)), (18, none, (I 18))]) (K := []) (ls := [some (.ref 4), some (.ref 1), some (.ref 16), none, none, none]) zmt_55 zco_55 rfl rfl (zid_s (zid_s (zid_s (zid_s (zid_s (zid_a (zid_s (zid_a zid_n)))))))) zid_n ?_
  delta f_X6_readOperator at h
  refine g_aload_n (pc' := 1)  hc rfl rfl rfl rfl ?_
  refine g_bipush (pc' := 3) (v := (41 : Int32)) hc rfl zkb_41 rfl ?_
  refine z_virt (as := [.int (41 : Int32)]) (a := 1) (r := []) hc rfl rfl rfl rfl sh_1 rfl zco_88 rfl rfl rfl ?_
  refine ok_X9_isSign_1 (zdp hd rfl) (zwp_mono (zwp_bind h) ?_)
  rintro r1 h
  refine z_po (pc' := 6) (st' := [.int r1]) (v := (some (.int r1))) (L' := [(4, some 1, fun _ => (I 4 1)), (4, some 2, fun _ => (I 4 2)), (4, some 3, fun _ => (I 4 3)), (4, some 4, fun _ => (I 4 4)), (4, some 5, fun _ => (I 4 5)), (5, none, (I 5)), (16, some 2, fun _ => (I 16 2)), (18, none, (I 18))]) (K' := []) zco_88 rfl rfl rfl rfl rfl rfl rfl rfl ?_
  refine g_if_eq (pc' := 9) hc rfl rfl (fun hx => ?_) (fun hx => ?_)
  · replace h := zwp_t h hx
    refine g_aload_n (pc' := 49)  hc rfl rfl rfl rfl ?_
    refine z_stat (as := [.ref 1]) (r := []) hc rfl rfl rfl rfl zco_56 rfl rfl rfl ?_
    refine ok_X6_operatorOf_1 (zdp hd rfl) (zwp_mono (zwp_bind h) ?_)
    rintro r2 h
    refine z_po (pc' := 52) (st' := [.int r2]) (v := (some (.int r2))) (L' := [(4, some 1, fun _ => (I 4 1)), (4, some 2, fun _ => (I 4 2)), (4, some 3, fun _ => (I 4 3)), (4, some 4, fun _ => (I 4 4)), (4, some 5, fun _ => (I 4 5)), (5, none, (I 5)), (16, some 2, fun _ => (I 16 2)), (18, none, (I 18))]) (K' := []) zco_56 rfl rfl rfl rfl rfl rfl rfl rfl ?_
    refine g_istore_n (pc' := 53) (ls1 := [some (.ref 4), some (.ref 1), some (.ref 16), some (.int r2), none, none]) hc rfl (zlt rfl) rfl rfl ?_
    refine g_iload_n (pc' := 54)  hc rfl rfl rfl ?_
    refine g_iconst (pc' := 55) (v := (-1 : Int32)) hc rfl zki_m1 rfl ?_
    refine g_icmp_ne (pc' := 58) hc rfl rfl (fun hx => ?_) (fun hx => ?_)
    · replace h := zwp_f h hx
      refine g_iload_n (pc' := 61)  hc rfl rfl rfl ?_
      refine z_stat (as := [.int r2]) (r := []) hc rfl rfl rfl rfl zco_57 rfl rfl rfl ?_
      refine ok_X6_rankOf (zdp hd rfl) (zwp_mono (zwp_bind h) ?_)
      rintro r3 h
      refine z_po (pc' := 64) (st' := [.int r3]) (v := (some (.int r3))) (L' := [(4, some 1, fun _ => (I 4 1)), (4, some 2, fun _ => (I 4 2)), (4, some 3, fun _ => (I 4 3)), (4, some 4, fun _ => (I 4 4)), (4, some 5, fun _ => (I 4 5)), (5, none, (I 5)), (16, some 2, fun _ => (I 16 2)), (18, none, (I 18))]) (K' := []) zco_57 rfl rfl rfl rfl rfl rfl rfl rfl ?_
      refine g_istore (pc' := 66) (ls1 := [some (.ref 4), some (.ref 1), some (.ref 16), some (.int r2), some (.int r3), none]) hc rfl (zlt rfl) rfl rfl ?_
      refine g_iload (pc' := 68)  hc rfl rfl rfl ?_
      refine g_bipush (pc' := 70) (v := (-14 : Int32)) hc rfl zkb_m14 rfl ?_
      refine z_stat (as := [.int (-14 : Int32)]) (r := [.int r3]) hc rfl rfl rfl rfl zco_57 rfl rfl rfl ?_
      refine ok_X6_rankOf (zdp hd rfl) (zwp_mono (zwp_bind h) ?_)
      rintro r4 h
      refine z_po (pc' := 73) (st' := [.int r4, .int r3]) (v := (some (.int r4))) (L' := [(4, some 1, fun _ => (I 4 1)), (4, some 2, fun _ => (I 4 2)), (4, some 3, fun _ => (I 4 3)), (4, some 4, fun _ => (I 4 4)), (4, some 5, fun _ => (I 4 5)), (5, none, (I 5)), (16, some 2, fun _ => (I 16 2)), (18, none, (I 18))]) (K' := []) zco_57 rfl rfl rfl rfl rfl rfl rfl rfl ?_
      refine zjn (G := (fun (j5 : Int32) => pm_ev C_X6_readOperator (d + 1) (pm_call M cost zext d) cost (false, false) 108 0 0 Q 81 [some (.ref 4), some (.ref 1), some (.ref 16), some (.int r2), some (.int r3), none] [.int j5] 0 0 (zS p q I [(4, some 1, fun _ => (I 4 1)), (4, some 2, fun _ => (I 4 2)), (4, some 3, fun _ => (I 4 3)), (4, some 4, fun _ => (I 4 4)), (4, some 5, fun _ => (I 4 5)), (5, none, (I 5)), (16, some 2, fun _ => (I 16 2)), (18, none, (I 18))] J []))) (zwp_bind h) ?_ (fun h => ?_)
      · rintro j5 h
        refine g_istore (pc' := 83) (ls1 := [some (.ref 4), some (.ref 1), some (.ref 16), some (.int r2), some (.int r3), some (.int j5)]) hc rfl (zlt rfl) rfl rfl ?_
        refine g_aload_n (pc' := 84)  hc rfl rfl rfl rfl ?_
        refine g_aload_n (pc' := 85)  hc rfl rfl rfl rfl ?_
        refine g_iload (pc' := 87)  hc rfl rfl rfl ?_
        refine zjn (G := (fun (j6 : Int32) => pm_ev C_X6_readOperator (d + 1) (pm_call M cost zext d) cost (false, false) 108 0 0 Q 99 [some (.ref 4), some (.ref 1), some (.ref 16), some (.int r2), some (.int r3), some (.int j5)] [.int j6, .ref 16, .ref 4] 0 0 (zS p q I [(4, some 1, fun _ => (I 4 1)), (4, some 2, fun _ => (I 4 2)), (4, some 3, fun _ => (I 4 3)), (4, some 4, fun _ => (I 4 4)), (4, some 5, fun _ => (I 4 5)), (5, none, (I 5)), (16, some 2, fun _ => (I 16 2)), (18, none, (I 18))] J []))) (zwp_bind h) ?_ (fun h => ?_)
        · rintro j6 h
          refine z_virt (as := [.ref 16, .int j6]) (a := 4) (r := []) hc rfl rfl rfl rfl sh_4 rfl zco_59 rfl rfl rfl ?_
          refine ok_X6_release_4_16 (zdp hd rfl) (zwp_mono (zwp_bind h) ?_)
          rintro ⟨o7, o8, o9⟩ h
          refine z_po (pc' := 102) (st' := []) (v := none) (L' := [(4, some 1, fun _ => o9), (4, some 2, fun _ => (I 4 2)), (4, some 3, fun _ => (I 4 3)), (4, some 4, fun _ => (I 4 4)), (4, some 5, fun _ => (I 4 5)), (5, none, (I 5)), (16, some 2, fun _ => o8), (18, none, o7)]) (K' := []) zco_59 rfl rfl rfl rfl rfl rfl rfl rfl ?_
          refine g_iload (pc' := 104)  hc rfl rfl rfl ?_
          refine g_if_eq (pc' := 107) hc rfl rfl (fun hx => ?_) (fun hx => ?_)
          · replace h := zwp_t h hx
            refine g_aload_n (pc' := 136)  hc rfl rfl rfl rfl ?_
            refine g_iload_n (pc' := 137)  hc rfl rfl rfl ?_
            refine z_virt (as := [.int r2]) (a := 4) (r := []) hc rfl rfl rfl rfl sh_4 rfl zco_58 rfl rfl rfl ?_
            refine ok_X6_push_4 (zdp hd rfl) (zwp_mono (zwp_bind h) ?_)
            rintro ⟨o10, o11⟩ h
            refine z_po (pc' := 140) (st' := []) (v := none) (L' := [(4, some 1, fun _ => o11), (4, some 2, fun _ => (I 4 2)), (4, some 3, fun _ => (I 4 3)), (4, some 4, fun _ => (I 4 4)), (4, some 5, fun _ => (I 4 5)), (5, none, o10), (16, some 2, fun _ => o8), (18, none, o7)]) (K' := []) zco_58 rfl rfl rfl rfl rfl rfl rfl rfl ?_
            refine g_aload_n (pc' := 141)  hc rfl rfl rfl rfl ?_
            refine g_iload (pc' := 143)  hc rfl rfl rfl ?_
            refine g_bipush (pc' := 145) (v := (-12 : Int32)) hc rfl zkb_m12 rfl ?_
            refine z_stat (as := [.int (-12 : Int32)]) (r := [.int r3, .ref 4]) hc rfl rfl rfl rfl zco_57 rfl rfl rfl ?_
            refine ok_X6_rankOf (zdp hd rfl) (zwp_mono (zwp_bind h) ?_)
            rintro r12 h
            refine z_po (pc' := 148) (st' := [.int r12, .int r3, .ref 4]) (v := (some (.int r12))) (L' := [(4, some 1, fun _ => o11), (4, some 2, fun _ => (I 4 2)), (4, some 3, fun _ => (I 4 3)), (4, some 4, fun _ => (I 4 4)), (4, some 5, fun _ => (I 4 5)), (5, none, o10), (16, some 2, fun _ => o8), (18, none, o7)]) (K' := []) zco_57 rfl rfl rfl rfl rfl rfl rfl rfl ?_
            refine zjn (G := (fun (j13 : Int32) => pm_ev C_X6_readOperator (d + 1) (pm_call M cost zext d) cost (false, false) 108 0 0 Q 156 [some (.ref 4), some (.ref 1), some (.ref 16), some (.int r2), some (.int r3), some (.int j5)] [.int j13, .ref 4] 0 0 (zS p q I [(4, some 1, fun _ => o11), (4, some 2, fun _ => (I 4 2)), (4, some 3, fun _ => (I 4 3)), (4, some 4, fun _ => (I 4 4)), (4, some 5, fun _ => (I 4 5)), (5, none, o10), (16, some 2, fun _ => o8), (18, none, o7)] J []))) (zwp_bind h) ?_ (fun h => ?_)
            · rintro j13 h
              refine z_virt (as := [.int j13]) (a := 4) (r := []) hc rfl rfl rfl rfl sh_4 rfl zco_50 rfl rfl rfl ?_
              refine ok_X6_beginPart_4 (zdp hd rfl) (zwp_mono (zwp_bind h) ?_)
              rintro ⟨o14, o15, o16⟩ h
              refine z_po (pc' := 159) (st' := []) (v := none) (L' := [(4, some 1, fun _ => o11), (4, some 2, fun _ => (I 4 2)), (4, some 3, fun _ => o15), (4, some 4, fun _ => o14), (4, some 5, fun _ => o16), (5, none, o10), (16, some 2, fun _ => o8), (18, none, o7)]) (K' := []) zco_50 rfl rfl rfl rfl rfl rfl rfl rfl ?_
              refine g_iconst (pc' := 160) (v := (0 : Int32)) hc rfl zki_0 rfl ?_
              replace h := zws h
              exact g_ireturn hc rfl rfl rfl (fun _ => ⟨rfl, rfl⟩) h
            refine g_icmp_gt (pc' := 151) hc rfl rfl (fun hx => ?_) (fun hx => ?_)
            · replace h := zwp_t h hx
              refine g_iconst (pc' := 156) (v := (0 : Int32)) hc rfl zki_0 rfl ?_
              replace h := zws h
              exact h
            · replace h := zwp_f h hx
              refine g_iconst (pc' := 152) (v := (1 : Int32)) hc rfl zki_1 rfl ?_
              refine g_goto hc rfl ?_
              replace h := zws h
              exact h
          · replace h := zwp_f h hx
            refine g_aload_n (pc' := 108)  hc rfl rfl rfl rfl ?_
            refine z_getI (pc' := 111) (v := o9) hc rfl rfl rfl sh_4 rfl rfl rfl ?_
            refine g_if_le (pc' := 114) hc rfl rfl (fun hx => ?_) (fun hx => ?_)
            · replace h := zwp_t h hx
              refine g_aload_n (pc' := 136)  hc rfl rfl rfl rfl ?_
              refine g_iload_n (pc' := 137)  hc rfl rfl rfl ?_
              refine z_virt (as := [.int r2]) (a := 4) (r := []) hc rfl rfl rfl rfl sh_4 rfl zco_58 rfl rfl rfl ?_
              refine ok_X6_push_4 (zdp hd rfl) (zwp_mono (zwp_bind h) ?_)
              rintro ⟨o17, o18⟩ h
              refine z_po (pc' := 140) (st' := []) (v := none) (L' := [(4, some 1, fun _ => o18), (4, some 2, fun _ => (I 4 2)), (4, some 3, fun _ => (I 4 3)), (4, some 4, fun _ => (I 4 4)), (4, some 5, fun _ => (I 4 5)), (5, none, o17), (16, some 2, fun _ => o8), (18, none, o7)]) (K' := []) zco_58 rfl rfl rfl rfl rfl rfl rfl rfl ?_
              refine g_aload_n (pc' := 141)  hc rfl rfl rfl rfl ?_
              refine g_iload (pc' := 143)  hc rfl rfl rfl ?_
              refine g_bipush (pc' := 145) (v := (-12 : Int32)) hc rfl zkb_m12 rfl ?_
              refine z_stat (as := [.int (-12 : Int32)]) (r := [.int r3, .ref 4]) hc rfl rfl rfl rfl zco_57 rfl rfl rfl ?_
              refine ok_X6_rankOf (zdp hd rfl) (zwp_mono (zwp_bind h) ?_)
              rintro r19 h
              refine z_po (pc' := 148) (st' := [.int r19, .int r3, .ref 4]) (v := (some (.int r19))) (L' := [(4, some 1, fun _ => o18), (4, some 2, fun _ => (I 4 2)), (4, some 3, fun _ => (I 4 3)), (4, some 4, fun _ => (I 4 4)), (4, some 5, fun _ => (I 4 5)), (5, none, o17), (16, some 2, fun _ => o8), (18, none, o7)]) (K' := []) zco_57 rfl rfl rfl rfl rfl rfl rfl rfl ?_
              refine zjn (G := (fun (j20 : Int32) => pm_ev C_X6_readOperator (d + 1) (pm_call M cost zext d) cost (false, false) 108 0 0 Q 156 [some (.ref 4), some (.ref 1), some (.ref 16), some (.int r2), some (.int r3), some (.int j5)] [.int j20, .ref 4] 0 0 (zS p q I [(4, some 1, fun _ => o18), (4, some 2, fun _ => (I 4 2)), (4, some 3, fun _ => (I 4 3)), (4, some 4, fun _ => (I 4 4)), (4, some 5, fun _ => (I 4 5)), (5, none, o17), (16, some 2, fun _ => o8), (18, none, o7)] J []))) (zwp_bind h) ?_ (fun h => ?_)
              · rintro j20 h
                refine z_virt (as := [.int j20]) (a := 4) (r := []) hc rfl rfl rfl rfl sh_4 rfl zco_50 rfl rfl rfl ?_
                refine ok_X6_beginPart_4 (zdp hd rfl) (zwp_mono (zwp_bind h) ?_)
                rintro ⟨o21, o22, o23⟩ h
                refine z_po (pc' := 159) (st' := []) (v := none) (L' := [(4, some 1, fun _ => o18), (4, some 2, fun _ => (I 4 2)), (4, some 3, fun _ => o22), (4, some 4, fun _ => o21), (4, some 5, fun _ => o23), (5, none, o17), (16, some 2, fun _ => o8), (18, none, o7)]) (K' := []) zco_50 rfl rfl rfl rfl rfl rfl rfl rfl ?_
                refine g_iconst (pc' := 160) (v := (0 : Int32)) hc rfl zki_0 rfl ?_
                replace h := zws h
                exact g_ireturn hc rfl rfl rfl (fun _ => ⟨rfl, rfl⟩) h
              refine g_icmp_gt (pc' := 151) hc rfl rfl (fun hx => ?_) (fun hx => ?_)
              · replace h := zwp_t h hx
                refine g_iconst (pc' := 156) (v := (0 : Int32)) hc rfl zki_0 rfl ?_
                replace h := zws h
                exact h
              · replace h := zwp_f h hx
                refine g_iconst (pc' := 152) (v := (1 : Int32)) hc rfl zki_1 rfl ?_
                refine g_goto hc rfl ?_
                replace h := zws h
                exact h
            · replace h := zwp_f h hx
              refine g_aload_n (pc' := 115)  hc rfl rfl rfl rfl ?_
              refine z_getR (pc' := 118)  hc rfl rfl rfl sh_4 rfl rfl ?_
              refine g_aload_n (pc' := 119)  hc rfl rfl rfl rfl ?_
              refine z_getI (pc' := 122) (v := o9) hc rfl rfl rfl sh_4 rfl rfl rfl ?_
              refine g_iconst (pc' := 123) (v := (1 : Int32)) hc rfl zki_1 rfl ?_
              refine g_isub (pc' := 124)  hc rfl rfl ?_
              have hb := (zwp_bnd h).1
              replace h := (zwp_bnd h).2
              refine z_iaload (pc' := 125) (v := (((I 5)) (o9 - (1 : Int32)).toNatClampNeg)) hc rfl rfl sh_5 hb rfl rfl ?_
              refine z_stat (as := [.int (((I 5)) (o9 - (1 : Int32)).toNatClampNeg)]) (r := []) hc rfl rfl rfl rfl zco_57 rfl rfl rfl ?_
              refine ok_X6_rankOf (zdp hd rfl) (zwp_mono (zwp_bind h) ?_)
              rintro r24 h
              refine z_po (pc' := 128) (st' := [.int r24]) (v := (some (.int r24))) (L' := [(4, some 1, fun _ => o9), (4, some 2, fun _ => (I 4 2)), (4, some 3, fun _ => (I 4 3)), (4, some 4, fun _ => (I 4 4)), (4, some 5, fun _ => (I 4 5)), (5, none, (I 5)), (16, some 2, fun _ => o8), (18, none, o7)]) (K' := []) zco_57 rfl rfl rfl rfl rfl rfl rfl rfl ?_
              refine g_iload (pc' := 130)  hc rfl rfl rfl ?_
              refine g_icmp_ne (pc' := 133) hc rfl rfl (fun hx => ?_) (fun hx => ?_)
              · replace h := zwp_f h hx
                refine g_aload_n (pc' := 136)  hc rfl rfl rfl rfl ?_
                refine g_iload_n (pc' := 137)  hc rfl rfl rfl ?_
                refine z_virt (as := [.int r2]) (a := 4) (r := []) hc rfl rfl rfl rfl sh_4 rfl zco_58 rfl rfl rfl ?_
                refine ok_X6_push_4 (zdp hd rfl) (zwp_mono (zwp_bind h) ?_)
                rintro ⟨o25, o26⟩ h
                refine z_po (pc' := 140) (st' := []) (v := none) (L' := [(4, some 1, fun _ => o26), (4, some 2, fun _ => (I 4 2)), (4, some 3, fun _ => (I 4 3)), (4, some 4, fun _ => (I 4 4)), (4, some 5, fun _ => (I 4 5)), (5, none, o25), (16, some 2, fun _ => o8), (18, none, o7)]) (K' := []) zco_58 rfl rfl rfl rfl rfl rfl rfl rfl ?_
                refine g_aload_n (pc' := 141)  hc rfl rfl rfl rfl ?_
                refine g_iload (pc' := 143)  hc rfl rfl rfl ?_
                refine g_bipush (pc' := 145) (v := (-12 : Int32)) hc rfl zkb_m12 rfl ?_
                refine z_stat (as := [.int (-12 : Int32)]) (r := [.int r3, .ref 4]) hc rfl rfl rfl rfl zco_57 rfl rfl rfl ?_
                refine ok_X6_rankOf (zdp hd rfl) (zwp_mono (zwp_bind h) ?_)
                rintro r27 h
                refine z_po (pc' := 148) (st' := [.int r27, .int r3, .ref 4]) (v := (some (.int r27))) (L' := [(4, some 1, fun _ => o26), (4, some 2, fun _ => (I 4 2)), (4, some 3, fun _ => (I 4 3)), (4, some 4, fun _ => (I 4 4)), (4, some 5, fun _ => (I 4 5)), (5, none, o25), (16, some 2, fun _ => o8), (18, none, o7)]) (K' := []) zco_57 rfl rfl rfl rfl rfl rfl rfl rfl ?_
                refine zjn (G := (fun (j28 : Int32) => pm_ev C_X6_readOperator (d + 1) (pm_call M cost zext d) cost (false, false) 108 0 0 Q 156 [some (.ref 4), some (.ref 1), some (.ref 16), some (.int r2), some (.int r3), some (.int j5)] [.int j28, .ref 4] 0 0 (zS p q I [(4, some 1, fun _ => o26), (4, some 2, fun _ => (I 4 2)), (4, some 3, fun _ => (I 4 3)), (4, some 4, fun _ => (I 4 4)), (4, some 5, fun _ => (I 4 5)), (5, none, o25), (16, some 2, fun _ => o8), (18, none, o7)] J []))) (zwp_bind h) ?_ (fun h => ?_)
                · rintro j28 h
                  refine z_virt (as := [.int j28]) (a := 4) (r := []) hc rfl rfl rfl rfl sh_4 rfl zco_50 rfl rfl rfl ?_
                  refine ok_X6_beginPart_4 (zdp hd rfl) (zwp_mono (zwp_bind h) ?_)
                  rintro ⟨o29, o30, o31⟩ h
                  refine z_po (pc' := 159) (st' := []) (v := none) (L' := [(4, some 1, fun _ => o26), (4, some 2, fun _ => (I 4 2)), (4, some 3, fun _ => o30), (4, some 4, fun _ => o29), (4, some 5, fun _ => o31), (5, none, o25), (16, some 2, fun _ => o8), (18, none, o7)]) (K' := []) zco_50 rfl rfl rfl rfl rfl rfl rfl rfl ?_
                  refine g_iconst (pc' := 160) (v := (0 : Int32)) hc rfl zki_0 rfl ?_
                  replace h := zws h
                  exact g_ireturn hc rfl rfl rfl (fun _ => ⟨rfl, rfl⟩) h
                refine g_icmp_gt (pc' := 151) hc rfl rfl (fun hx => ?_) (fun hx => ?_)
                · replace h := zwp_t h hx
                  refine g_iconst (pc' := 156) (v := (0 : Int32)) hc rfl zki_0 rfl ?_
                  replace h := zws h
                  exact h
                · replace h := zwp_f h hx
                  refine g_iconst (pc' := 152) (v := (1 : Int32)) hc rfl zki_1 rfl ?_
                  refine g_goto hc rfl ?_
                  replace h := zws h
                  exact h
              · replace h := zwp_t h hx
                refine g_iconst (pc' := 134) (v := (1 : Int32)) hc rfl zki_1 rfl ?_
                replace h := zws h
                exact g_ireturn hc rfl rfl rfl (fun _ => ⟨rfl, rfl⟩) h
        refine g_if_eq (pc' := 90) hc rfl rfl (fun hx => ?_) (fun hx => ?_)
        · replace h := zwp_t h hx
          refine g_iload (pc' := 99)  hc rfl rfl rfl ?_
          replace h := zws h
          exact h
        · replace h := zwp_f h hx
          refine g_iload (pc' := 92)  hc rfl rfl rfl ?_
          refine g_iconst (pc' := 93) (v := (1 : Int32)) hc rfl zki_1 rfl ?_
          refine g_iadd (pc' := 94)  hc rfl rfl ?_
          refine g_goto hc rfl ?_
          replace h := zws h
          exact h
      refine g_icmp_ne (pc' := 76) hc rfl rfl (fun hx => ?_) (fun hx => ?_)
      · replace h := zwp_f h hx
        refine g_iconst (pc' := 81) (v := (0 : Int32)) hc rfl zki_0 rfl ?_
        replace h := zws h
        exact h
      · replace h := zwp_t h hx
        refine g_iconst (pc' := 77) (v := (1 : Int32)) hc rfl zki_1 rfl ?_
        refine g_goto hc rfl ?_
        replace h := zws h
        exact h
    · replace h := zwp_t h hx
      refine g_iconst (pc' := 59) (v := (1 : Int32)) hc rfl zki_1 rfl ?_
      replace h := zws h
      exact g_ireturn hc rfl rfl rfl (fun _ => ⟨rfl, rfl⟩) h
  · replace h := zwp_f h hx
    refine g_aload_n (pc' := 10)  hc rfl rfl rfl rfl ?_
    refine z_getI (pc' := 13) (v := (I 4 2)) hc rfl rfl rfl sh_4 rfl rfl rfl ?_
    refine g_if_le (pc' := 16) hc rfl rfl (fun hx => ?_) (fun hx => ?_)
    · replace h := zwp_t h hx
      refine g_aload_n (pc' := 49)  hc rfl rfl rfl rfl ?_
      refine z_stat (as := [.ref 1]) (r := []) hc rfl rfl rfl rfl zco_56 rfl rfl rfl ?_
      refine ok_X6_operatorOf_1 (zdp hd rfl) (zwp_mono (zwp_bind h) ?_)
      rintro r32 h
      refine z_po (pc' := 52) (st' := [.int r32]) (v := (some (.int r32))) (L' := [(4, some 1, fun _ => (I 4 1)), (4, some 2, fun _ => (I 4 2)), (4, some 3, fun _ => (I 4 3)), (4, some 4, fun _ => (I 4 4)), (4, some 5, fun _ => (I 4 5)), (5, none, (I 5)), (16, some 2, fun _ => (I 16 2)), (18, none, (I 18))]) (K' := []) zco_56 rfl rfl rfl rfl rfl rfl rfl rfl ?_
      refine g_istore_n (pc' := 53) (ls1 := [some (.ref 4), some (.ref 1), some (.ref 16), some (.int r32), none, none]) hc rfl (zlt rfl) rfl rfl ?_
      refine g_iload_n (pc' := 54)  hc rfl rfl rfl ?_
      refine g_iconst (pc' := 55) (v := (-1 : Int32)) hc rfl zki_m1 rfl ?_
      refine g_icmp_ne (pc' := 58) hc rfl rfl (fun hx => ?_) (fun hx => ?_)
      · replace h := zwp_f h hx
        refine g_iload_n (pc' := 61)  hc rfl rfl rfl ?_
        refine z_stat (as := [.int r32]) (r := []) hc rfl rfl rfl rfl zco_57 rfl rfl rfl ?_
        refine ok_X6_rankOf (zdp hd rfl) (zwp_mono (zwp_bind h) ?_)
        rintro r33 h
        refine z_po (pc' := 64) (st' := [.int r33]) (v := (some (.int r33))) (L' := [(4, some 1, fun _ => (I 4 1)), (4, some 2, fun _ => (I 4 2)), (4, some 3, fun _ => (I 4 3)), (4, some 4, fun _ => (I 4 4)), (4, some 5, fun _ => (I 4 5)), (5, none, (I 5)), (16, some 2, fun _ => (I 16 2)), (18, none, (I 18))]) (K' := []) zco_57 rfl rfl rfl rfl rfl rfl rfl rfl ?_
        refine g_istore (pc' := 66) (ls1 := [some (.ref 4), some (.ref 1), some (.ref 16), some (.int r32), some (.int r33), none]) hc rfl (zlt rfl) rfl rfl ?_
        refine g_iload (pc' := 68)  hc rfl rfl rfl ?_
        refine g_bipush (pc' := 70) (v := (-14 : Int32)) hc rfl zkb_m14 rfl ?_
        refine z_stat (as := [.int (-14 : Int32)]) (r := [.int r33]) hc rfl rfl rfl rfl zco_57 rfl rfl rfl ?_
        refine ok_X6_rankOf (zdp hd rfl) (zwp_mono (zwp_bind h) ?_)
        rintro r34 h
        refine z_po (pc' := 73) (st' := [.int r34, .int r33]) (v := (some (.int r34))) (L' := [(4, some 1, fun _ => (I 4 1)), (4, some 2, fun _ => (I 4 2)), (4, some 3, fun _ => (I 4 3)), (4, some 4, fun _ => (I 4 4)), (4, some 5, fun _ => (I 4 5)), (5, none, (I 5)), (16, some 2, fun _ => (I 16 2)), (18, none, (I 18))]) (K' := []) zco_57 rfl rfl rfl rfl rfl rfl rfl rfl ?_
        refine zjn (G := (fun (j35 : Int32) => pm_ev C_X6_readOperator (d + 1) (pm_call M cost zext d) cost (false, false) 108 0 0 Q 81 [some (.ref 4), some (.ref 1), some (.ref 16), some (.int r32), some (.int r33), none] [.int j35] 0 0 (zS p q I [(4, some 1, fun _ => (I 4 1)), (4, some 2, fun _ => (I 4 2)), (4, some 3, fun _ => (I 4 3)), (4, some 4, fun _ => (I 4 4)), (4, some 5, fun _ => (I 4 5)), (5, none, (I 5)), (16, some 2, fun _ => (I 16 2)), (18, none, (I 18))] J []))) (zwp_bind h) ?_ (fun h => ?_)
        · rintro j35 h
          refine g_istore (pc' := 83) (ls1 := [some (.ref 4), some (.ref 1), some (.ref 16), some (.int r32), some (.int r33), some (.int j35)]) hc rfl (zlt rfl) rfl rfl ?_
          refine g_aload_n (pc' := 84)  hc rfl rfl rfl rfl ?_
          refine g_aload_n (pc' := 85)  hc rfl rfl rfl rfl ?_
          refine g_iload (pc' := 87)  hc rfl rfl rfl ?_
          refine zjn (G := (fun (j36 : Int32) => pm_ev C_X6_readOperator (d + 1) (pm_call M cost zext d) cost (false, false) 108 0 0 Q 99 [some (.ref 4), some (.ref 1), some (.ref 16), some (.int r32), some (.int r33), some (.int j35)] [.int j36, .ref 16, .ref 4] 0 0 (zS p q I [(4, some 1, fun _ => (I 4 1)), (4, some 2, fun _ => (I 4 2)), (4, some 3, fun _ => (I 4 3)), (4, some 4, fun _ => (I 4 4)), (4, some 5, fun _ => (I 4 5)), (5, none, (I 5)), (16, some 2, fun _ => (I 16 2)), (18, none, (I 18))] J []))) (zwp_bind h) ?_ (fun h => ?_)
          · rintro j36 h
            refine z_virt (as := [.ref 16, .int j36]) (a := 4) (r := []) hc rfl rfl rfl rfl sh_4 rfl zco_59 rfl rfl rfl ?_
            refine ok_X6_release_4_16 (zdp hd rfl) (zwp_mono (zwp_bind h) ?_)
            rintro ⟨o37, o38, o39⟩ h
            refine z_po (pc' := 102) (st' := []) (v := none) (L' := [(4, some 1, fun _ => o39), (4, some 2, fun _ => (I 4 2)), (4, some 3, fun _ => (I 4 3)), (4, some 4, fun _ => (I 4 4)), (4, some 5, fun _ => (I 4 5)), (5, none, (I 5)), (16, some 2, fun _ => o38), (18, none, o37)]) (K' := []) zco_59 rfl rfl rfl rfl rfl rfl rfl rfl ?_
            refine g_iload (pc' := 104)  hc rfl rfl rfl ?_
            refine g_if_eq (pc' := 107) hc rfl rfl (fun hx => ?_) (fun hx => ?_)
            · replace h := zwp_t h hx
              refine g_aload_n (pc' := 136)  hc rfl rfl rfl rfl ?_
              refine g_iload_n (pc' := 137)  hc rfl rfl rfl ?_
              refine z_virt (as := [.int r32]) (a := 4) (r := []) hc rfl rfl rfl rfl sh_4 rfl zco_58 rfl rfl rfl ?_
              refine ok_X6_push_4 (zdp hd rfl) (zwp_mono (zwp_bind h) ?_)
              rintro ⟨o40, o41⟩ h
              refine z_po (pc' := 140) (st' := []) (v := none) (L' := [(4, some 1, fun _ => o41), (4, some 2, fun _ => (I 4 2)), (4, some 3, fun _ => (I 4 3)), (4, some 4, fun _ => (I 4 4)), (4, some 5, fun _ => (I 4 5)), (5, none, o40), (16, some 2, fun _ => o38), (18, none, o37)]) (K' := []) zco_58 rfl rfl rfl rfl rfl rfl rfl rfl ?_
              refine g_aload_n (pc' := 141)  hc rfl rfl rfl rfl ?_
              refine g_iload (pc' := 143)  hc rfl rfl rfl ?_
              refine g_bipush (pc' := 145) (v := (-12 : Int32)) hc rfl zkb_m12 rfl ?_
              refine z_stat (as := [.int (-12 : Int32)]) (r := [.int r33, .ref 4]) hc rfl rfl rfl rfl zco_57 rfl rfl rfl ?_
              refine ok_X6_rankOf (zdp hd rfl) (zwp_mono (zwp_bind h) ?_)
              rintro r42 h
              refine z_po (pc' := 148) (st' := [.int r42, .int r33, .ref 4]) (v := (some (.int r42))) (L' := [(4, some 1, fun _ => o41), (4, some 2, fun _ => (I 4 2)), (4, some 3, fun _ => (I 4 3)), (4, some 4, fun _ => (I 4 4)), (4, some 5, fun _ => (I 4 5)), (5, none, o40), (16, some 2, fun _ => o38), (18, none, o37)]) (K' := []) zco_57 rfl rfl rfl rfl rfl rfl rfl rfl ?_
              refine zjn (G := (fun (j43 : Int32) => pm_ev C_X6_readOperator (d + 1) (pm_call M cost zext d) cost (false, false) 108 0 0 Q 156 [some (.ref 4), some (.ref 1), some (.ref 16), some (.int r32), some (.int r33), some (.int j35)] [.int j43, .ref 4] 0 0 (zS p q I [(4, some 1, fun _ => o41), (4, some 2, fun _ => (I 4 2)), (4, some 3, fun _ => (I 4 3)), (4, some 4, fun _ => (I 4 4)), (4, some 5, fun _ => (I 4 5)), (5, none, o40), (16, some 2, fun _ => o38), (18, none, o37)] J []))) (zwp_bind h) ?_ (fun h => ?_)
              · rintro j43 h
                refine z_virt (as := [.int j43]) (a := 4) (r := []) hc rfl rfl rfl rfl sh_4 rfl zco_50 rfl rfl rfl ?_
                refine ok_X6_beginPart_4 (zdp hd rfl) (zwp_mono (zwp_bind h) ?_)
                rintro ⟨o44, o45, o46⟩ h
                refine z_po (pc' := 159) (st' := []) (v := none) (L' := [(4, some 1, fun _ => o41), (4, some 2, fun _ => (I 4 2)), (4, some 3, fun _ => o45), (4, some 4, fun _ => o44), (4, some 5, fun _ => o46), (5, none, o40), (16, some 2, fun _ => o38), (18, none, o37)]) (K' := []) zco_50 rfl rfl rfl rfl rfl rfl rfl rfl ?_
                refine g_iconst (pc' := 160) (v := (0 : Int32)) hc rfl zki_0 rfl ?_
                replace h := zws h
                exact g_ireturn hc rfl rfl rfl (fun _ => ⟨rfl, rfl⟩) h
              refine g_icmp_gt (pc' := 151) hc rfl rfl (fun hx => ?_) (fun hx => ?_)
              · replace h := zwp_t h hx
                refine g_iconst (pc' := 156) (v := (0 : Int32)) hc rfl zki_0 rfl ?_
                replace h := zws h
                exact h
              · replace h := zwp_f h hx
                refine g_iconst (pc' := 152) (v := (1 : Int32)) hc rfl zki_1 rfl ?_
                refine g_goto hc rfl ?_
                replace h := zws h
                exact h
            · replace h := zwp_f h hx
              refine g_aload_n (pc' := 108)  hc rfl rfl rfl rfl ?_
              refine z_getI (pc' := 111) (v := o39) hc rfl rfl rfl sh_4 rfl rfl rfl ?_
              refine g_if_le (pc' := 114) hc rfl rfl (fun hx => ?_) (fun hx => ?_)
              · replace h := zwp_t h hx
                refine g_aload_n (pc' := 136)  hc rfl rfl rfl rfl ?_
                refine g_iload_n (pc' := 137)  hc rfl rfl rfl ?_
                refine z_virt (as := [.int r32]) (a := 4) (r := []) hc rfl rfl rfl rfl sh_4 rfl zco_58 rfl rfl rfl ?_
                refine ok_X6_push_4 (zdp hd rfl) (zwp_mono (zwp_bind h) ?_)
                rintro ⟨o47, o48⟩ h
                refine z_po (pc' := 140) (st' := []) (v := none) (L' := [(4, some 1, fun _ => o48), (4, some 2, fun _ => (I 4 2)), (4, some 3, fun _ => (I 4 3)), (4, some 4, fun _ => (I 4 4)), (4, some 5, fun _ => (I 4 5)), (5, none, o47), (16, some 2, fun _ => o38), (18, none, o37)]) (K' := []) zco_58 rfl rfl rfl rfl rfl rfl rfl rfl ?_
                refine g_aload_n (pc' := 141)  hc rfl rfl rfl rfl ?_
                refine g_iload (pc' := 143)  hc rfl rfl rfl ?_
                refine g_bipush (pc' := 145) (v := (-12 : Int32)) hc rfl zkb_m12 rfl ?_
                refine z_stat (as := [.int (-12 : Int32)]) (r := [.int r33, .ref 4]) hc rfl rfl rfl rfl zco_57 rfl rfl rfl ?_
                refine ok_X6_rankOf (zdp hd rfl) (zwp_mono (zwp_bind h) ?_)
                rintro r49 h
                refine z_po (pc' := 148) (st' := [.int r49, .int r33, .ref 4]) (v := (some (.int r49))) (L' := [(4, some 1, fun _ => o48), (4, some 2, fun _ => (I 4 2)), (4, some 3, fun _ => (I 4 3)), (4, some 4, fun _ => (I 4 4)), (4, some 5, fun _ => (I 4 5)), (5, none, o47), (16, some 2, fun _ => o38), (18, none, o37)]) (K' := []) zco_57 rfl rfl rfl rfl rfl rfl rfl rfl ?_
                refine zjn (G := (fun (j50 : Int32) => pm_ev C_X6_readOperator (d + 1) (pm_call M cost zext d) cost (false, false) 108 0 0 Q 156 [some (.ref 4), some (.ref 1), some (.ref 16), some (.int r32), some (.int r33), some (.int j35)] [.int j50, .ref 4] 0 0 (zS p q I [(4, some 1, fun _ => o48), (4, some 2, fun _ => (I 4 2)), (4, some 3, fun _ => (I 4 3)), (4, some 4, fun _ => (I 4 4)), (4, some 5, fun _ => (I 4 5)), (5, none, o47), (16, some 2, fun _ => o38), (18, none, o37)] J []))) (zwp_bind h) ?_ (fun h => ?_)
                · rintro j50 h
                  refine z_virt (as := [.int j50]) (a := 4) (r := []) hc rfl rfl rfl rfl sh_4 rfl zco_50 rfl rfl rfl ?_
                  refine ok_X6_beginPart_4 (zdp hd rfl) (zwp_mono (zwp_bind h) ?_)
                  rintro ⟨o51, o52, o53⟩ h
                  refine z_po (pc' := 159) (st' := []) (v := none) (L' := [(4, some 1, fun _ => o48), (4, some 2, fun _ => (I 4 2)), (4, some 3, fun _ => o52), (4, some 4, fun _ => o51), (4, some 5, fun _ => o53), (5, none, o47), (16, some 2, fun _ => o38), (18, none, o37)]) (K' := []) zco_50 rfl rfl rfl rfl rfl rfl rfl rfl ?_
                  refine g_iconst (pc' := 160) (v := (0 : Int32)) hc rfl zki_0 rfl ?_
                  replace h := zws h
                  exact g_ireturn hc rfl rfl rfl (fun _ => ⟨rfl, rfl⟩) h
                refine g_icmp_gt (pc' := 151) hc rfl rfl (fun hx => ?_) (fun hx => ?_)
                · replace h := zwp_t h hx
                  refine g_iconst (pc' := 156) (v := (0 : Int32)) hc rfl zki_0 rfl ?_
                  replace h := zws h
                  exact h
                · replace h := zwp_f h hx
                  refine g_iconst (pc' := 152) (v := (1 : Int32)) hc rfl zki_1 rfl ?_
                  refine g_goto hc rfl ?_
                  replace h := zws h
                  exact h
              · replace h := zwp_f h hx
                refine g_aload_n (pc' := 115)  hc rfl rfl rfl rfl ?_
                refine z_getR (pc' := 118)  hc rfl rfl rfl sh_4 rfl rfl ?_
                refine g_aload_n (pc' := 119)  hc rfl rfl rfl rfl ?_
                refine z_getI (pc' := 122) (v := o39) hc rfl rfl rfl sh_4 rfl rfl rfl ?_
                refine g_iconst (pc' := 123) (v := (1 : Int32)) hc rfl zki_1 rfl ?_
                refine g_isub (pc' := 124)  hc rfl rfl ?_
                have hb := (zwp_bnd h).1
                replace h := (zwp_bnd h).2
                refine z_iaload (pc' := 125) (v := (((I 5)) (o39 - (1 : Int32)).toNatClampNeg)) hc rfl rfl sh_5 hb rfl rfl ?_
                refine z_stat (as := [.int (((I 5)) (o39 - (1 : Int32)).toNatClampNeg)]) (r := []) hc rfl rfl rfl rfl zco_57 rfl rfl rfl ?_
                refine ok_X6_rankOf (zdp hd rfl) (zwp_mono (zwp_bind h) ?_)
                rintro r54 h
                refine z_po (pc' := 128) (st' := [.int r54]) (v := (some (.int r54))) (L' := [(4, some 1, fun _ => o39), (4, some 2, fun _ => (I 4 2)), (4, some 3, fun _ => (I 4 3)), (4, some 4, fun _ => (I 4 4)), (4, some 5, fun _ => (I 4 5)), (5, none, (I 5)), (16, some 2, fun _ => o38), (18, none, o37)]) (K' := []) zco_57 rfl rfl rfl rfl rfl rfl rfl rfl ?_
                refine g_iload (pc' := 130)  hc rfl rfl rfl ?_
                refine g_icmp_ne (pc' := 133) hc rfl rfl (fun hx => ?_) (fun hx => ?_)
                · replace h := zwp_f h hx
                  refine g_aload_n (pc' := 136)  hc rfl rfl rfl rfl ?_
                  refine g_iload_n (pc' := 137)  hc rfl rfl rfl ?_
                  refine z_virt (as := [.int r32]) (a := 4) (r := []) hc rfl rfl rfl rfl sh_4 rfl zco_58 rfl rfl rfl ?_
                  refine ok_X6_push_4 (zdp hd rfl) (zwp_mono (zwp_bind h) ?_)
                  rintro ⟨o55, o56⟩ h
                  refine z_po (pc' := 140) (st' := []) (v := none) (L' := [(4, some 1, fun _ => o56), (4, some 2, fun _ => (I 4 2)), (4, some 3, fun _ => (I 4 3)), (4, some 4, fun _ => (I 4 4)), (4, some 5, fun _ => (I 4 5)), (5, none, o55), (16, some 2, fun _ => o38), (18, none, o37)]) (K' := []) zco_58 rfl rfl rfl rfl rfl rfl rfl rfl ?_
                  refine g_aload_n (pc' := 141)  hc rfl rfl rfl rfl ?_
                  refine g_iload (pc' := 143)  hc rfl rfl rfl ?_
                  refine g_bipush (pc' := 145) (v := (-12 : Int32)) hc rfl zkb_m12 rfl ?_
                  refine z_stat (as := [.int (-12 : Int32)]) (r := [.int r33, .ref 4]) hc rfl rfl rfl rfl zco_57 rfl rfl rfl ?_
                  refine ok_X6_rankOf (zdp hd rfl) (zwp_mono (zwp_bind h) ?_)
                  rintro r57 h
                  refine z_po (pc' := 148) (st' := [.int r57, .int r33, .ref 4]) (v := (some (.int r57))) (L' := [(4, some 1, fun _ => o56), (4, some 2, fun _ => (I 4 2)), (4, some 3, fun _ => (I 4 3)), (4, some 4, fun _ => (I 4 4)), (4, some 5, fun _ => (I 4 5)), (5, none, o55), (16, some 2, fun _ => o38), (18, none, o37)]) (K' := []) zco_57 rfl rfl rfl rfl rfl rfl rfl rfl ?_
                  refine zjn (G := (fun (j58 : Int32) => pm_ev C_X6_readOperator (d + 1) (pm_call M cost zext d) cost (false, false) 108 0 0 Q 156 [some (.ref 4), some (.ref 1), some (.ref 16), some (.int r32), some (.int r33), some (.int j35)] [.int j58, .ref 4] 0 0 (zS p q I [(4, some 1, fun _ => o56), (4, some 2, fun _ => (I 4 2)), (4, some 3, fun _ => (I 4 3)), (4, some 4, fun _ => (I 4 4)), (4, some 5, fun _ => (I 4 5)), (5, none, o55), (16, some 2, fun _ => o38), (18, none, o37)] J []))) (zwp_bind h) ?_ (fun h => ?_)
                  · rintro j58 h
                    refine z_virt (as := [.int j58]) (a := 4) (r := []) hc rfl rfl rfl rfl sh_4 rfl zco_50 rfl rfl rfl ?_
                    refine ok_X6_beginPart_4 (zdp hd rfl) (zwp_mono (zwp_bind h) ?_)
                    rintro ⟨o59, o60, o61⟩ h
                    refine z_po (pc' := 159) (st' := []) (v := none) (L' := [(4, some 1, fun _ => o56), (4, some 2, fun _ => (I 4 2)), (4, some 3, fun _ => o60), (4, some 4, fun _ => o59), (4, some 5, fun _ => o61), (5, none, o55), (16, some 2, fun _ => o38), (18, none, o37)]) (K' := []) zco_50 rfl rfl rfl rfl rfl rfl rfl rfl ?_
                    refine g_iconst (pc' := 160) (v := (0 : Int32)) hc rfl zki_0 rfl ?_
                    replace h := zws h
                    exact g_ireturn hc rfl rfl rfl (fun _ => ⟨rfl, rfl⟩) h
                  refine g_icmp_gt (pc' := 151) hc rfl rfl (fun hx => ?_) (fun hx => ?_)
                  · replace h := zwp_t h hx
                    refine g_iconst (pc' := 156) (v := (0 : Int32)) hc rfl zki_0 rfl ?_
                    replace h := zws h
                    exact h
                  · replace h := zwp_f h hx
                    refine g_iconst (pc' := 152) (v := (1 : Int32)) hc rfl zki_1 rfl ?_
                    refine g_goto hc rfl ?_
                    replace h := zws h
                    exact h
                · replace h := zwp_t h hx
                  refine g_iconst (pc' := 134) (v := (1 : Int32)) hc rfl zki_1 rfl ?_
                  replace h := zws h
                  exact g_ireturn hc rfl rfl rfl (fun _ => ⟨rfl, rfl⟩) h
          refine g_if_eq (pc' := 90) hc rfl rfl (fun hx => ?_) (fun hx => ?_)
          · replace h := zwp_t h hx
            refine g_iload (pc' := 99)  hc rfl rfl rfl ?_
            replace h := zws h
            exact h
          · replace h := zwp_f h hx
            refine g_iload (pc' := 92)  hc rfl rfl rfl ?_
            refine g_iconst (pc' := 93) (v := (1 : Int32)) hc rfl zki_1 rfl ?_
            refine g_iadd (pc' := 94)  hc rfl rfl ?_
            refine g_goto hc rfl ?_
            replace h := zws h
            exact h
        refine g_icmp_ne (pc' := 76) hc rfl rfl (fun hx => ?_) (fun hx => ?_)
        · replace h := zwp_f h hx
          refine g_iconst (pc' := 81) (v := (0 : Int32)) hc rfl zki_0 rfl ?_
          replace h := zws h
          exact h
        · replace h := zwp_t h hx
          refine g_iconst (pc' := 77) (v := (1 : Int32)) hc rfl zki_1 rfl ?_
          refine g_goto hc rfl ?_
          replace h := zws h
          exact h
      · replace h := zwp_t h hx
        refine g_iconst (pc' := 59) (v := (1 : Int32)) hc rfl zki_1 rfl ?_
        replace h := zws h
        exact g_ireturn hc rfl rfl rfl (fun _ => ⟨rfl, rfl⟩) h
    · replace h := zwp_f h hx
      refine g_aload_n (pc' := 17)  hc rfl rfl rfl rfl ?_
      refine g_aload_n (pc' := 18)  hc rfl rfl rfl rfl ?_
      refine g_iconst (pc' := 19) (v := (0 : Int32)) hc rfl zki_0 rfl ?_
      refine z_virt (as := [.ref 16, .int (0 : Int32)]) (a := 4) (r := []) hc rfl rfl rfl rfl sh_4 rfl zco_59 rfl rfl rfl ?_
      refine ok_X6_release_4_16 (zdp hd rfl) (zwp_mono (zwp_bind h) ?_)
      rintro ⟨o62, o63, o64⟩ h
      refine z_po (pc' := 22) (st' := []) (v := none) (L' := [(4, some 1, fun _ => o64), (4, some 2, fun _ => (I 4 2)), (4, some 3, fun _ => (I 4 3)), (4, some 4, fun _ => (I 4 4)), (4, some 5, fun _ => (I 4 5)), (5, none, (I 5)), (16, some 2, fun _ => o63), (18, none, o62)]) (K' := []) zco_59 rfl rfl rfl rfl rfl rfl rfl rfl ?_
      refine g_aload_n (pc' := 23)  hc rfl rfl rfl rfl ?_
      refine g_iconst (pc' := 24) (v := (0 : Int32)) hc rfl zki_0 rfl ?_
      refine g_aload_n (pc' := 25)  hc rfl rfl rfl rfl ?_
      refine z_getI (pc' := 28) (v := o64) hc rfl rfl rfl sh_4 rfl rfl rfl ?_
      refine g_iconst (pc' := 29) (v := (1 : Int32)) hc rfl zki_1 rfl ?_
      refine g_isub (pc' := 30)  hc rfl rfl ?_
      refine z_max (pc' := 33)  hc rfl rfl (zdq hd rfl) rfl rfl ?_
      refine z_putI (pc' := 36) (L' := [(4, some 1, fun _ => (if (0 : Int32) < (o64 - (1 : Int32)) then (o64 - (1 : Int32)) else (0 : Int32))), (4, some 2, fun _ => (I 4 2)), (4, some 3, fun _ => (I 4 3)), (4, some 4, fun _ => (I 4 4)), (4, some 5, fun _ => (I 4 5)), (5, none, (I 5)), (16, some 2, fun _ => o63), (18, none, o62)]) hc rfl rfl rfl sh_4 rfl zft_6_1 rfl (fun h => Bool.noConfusion h) rfl rfl rfl ?_
      refine g_aload_n (pc' := 37)  hc rfl rfl rfl rfl ?_
      refine g_dup (pc' := 38)  hc rfl rfl rfl ?_
      refine z_getI (pc' := 41) (v := (I 4 2)) hc rfl rfl rfl sh_4 rfl rfl rfl ?_
      refine g_iconst (pc' := 42) (v := (1 : Int32)) hc rfl zki_1 rfl ?_
      refine g_isub (pc' := 43)  hc rfl rfl ?_
      refine z_putI (pc' := 46) (L' := [(4, some 1, fun _ => (if (0 : Int32) < (o64 - (1 : Int32)) then (o64 - (1 : Int32)) else (0 : Int32))), (4, some 2, fun _ => (((I 4 2)) - (1 : Int32))), (4, some 3, fun _ => (I 4 3)), (4, some 4, fun _ => (I 4 4)), (4, some 5, fun _ => (I 4 5)), (5, none, (I 5)), (16, some 2, fun _ => o63), (18, none, o62)]) hc rfl rfl rfl sh_4 rfl zft_6_2 rfl (fun h => Bool.noConfusion h) rfl rfl rfl ?_
      refine g_iconst (pc' := 47) (v := (0 : Int32)) hc rfl zki_0 rfl ?_
      replace h := zws h
      exact g_ireturn hc rfl rfl rfl (fun _ => ⟨rfl, rfl⟩) h
set_option maxRecDepth 4000 in
theorem ok_X6_read_4_1_16 {p q : Nat} {I : pI} {J : pJ} {a3 : Int32} {Q : pQ} {d : Nat} (hd : 10 ≤ d) (h : zwp (f_X6_read a3 (I 4 4) (I 4 2) (I 4 3) (I 4 5) (I 18) (I 16 2) (I 2) (I 1 4) (I 1 5) (I 1 2) (I 1 6) (I 1 3) (I 5) (I 4 1)) (fun w => match w with | (r, o0, o1, o2, o3, o4, o5, o6, o7, o8, o9, o10, o11) => Q (.inl (some (.int r))) (zS p q I [(1, some 3, fun _ => o9), (1, some 4, fun _ => o6), (1, some 5, fun _ => o7), (1, some 6, fun _ => o8), (4, some 1, fun _ => o11), (4, some 2, fun _ => o1), (4, some 3, fun _ => o2), (4, some 4, fun _ => o0), (4, some 5, fun _ => o3), (5, none, o10), (16, some 2, fun _ => o5), (18, none, o4)] J []))) : pm_call M cost zext d 48 [.ref 4, .ref 1, .ref 16, .int a3] (pm_st 108 (shp p q) I J) Q := by
  obtain ⟨d, rfl⟩ := zd1 hd rfl
  have hc := pm_call_m (M := M) (cost := cost) zext_m d
  refine z_in (L := [(1, some 3, fun _ => (I 1 3)), (1, some 4, fun _ => (I 1 4)), (1, some 5, fun _ => (I 1 5)), (1, some 6, fun _ => (I 1 6)), (4, some 1, fun _ => (I 4 1)), (4, some 2, fun _ => (I 4 2)), (4, some 3, fun _ => (I 4 3)), (4, some 4, fun _ => (I 4 4)), (4, some 5, fun _ => (I 4 5)), (5, none, (I 5)), (16, some 2, fun _ => (I 16 2)), (18, none, (I 18))]) (K := []) (ls := [some (.ref 4), some (.ref 1), some (.ref 16), some (.int a3), none, none]) zmt_48 zco_48 rfl rfl (zid_s (zid_s (zid_s (zid_s (zid_s (zid_s (zid_s (zid_s (zid_s (zid_a (zid_s (zid_a zid_n)))))))))))) zid_n ?_
  delta f_X6_read at h
  refine g_aload_n (pc' := 1)  hc rfl rfl rfl rfl ?_
  refine z_virt (as := []) (a := 16) (r := []) hc rfl rfl rfl rfl sh_16 rfl zco_43 rfl rfl rfl ?_
  refine ok_X5_isTold_16 (zdp hd rfl) (zwp_mono (zwp_bind h) ?_)
  rintro r1 h
  refine z_po (pc' := 4) (st' := [.int r1]) (v := (some (.int r1))) (L' := [(1, some 3, fun _ => (I 1 3)), (1, some 4, fun _ => (I 1 4)), (1, some 5, fun _ => (I 1 5)), (1, some 6, fun _ => (I 1 6)), (4, some 1, fun _ => (I 4 1)), (4, some 2, fun _ => (I 4 2)), (4, some 3, fun _ => (I 4 3)), (4, some 4, fun _ => (I 4 4)), (4, some 5, fun _ => (I 4 5)), (5, none, (I 5)), (16, some 2, fun _ => (I 16 2)), (18, none, (I 18))]) (K' := []) zco_43 rfl rfl rfl rfl rfl rfl rfl rfl ?_
  refine g_if_eq (pc' := 7) hc rfl rfl (fun hx => ?_) (fun hx => ?_)
  · replace h := zwp_t h hx
    refine g_aload_n (pc' := 10)  hc rfl rfl rfl rfl ?_
    refine g_iconst (pc' := 11) (v := (0 : Int32)) hc rfl zki_0 rfl ?_
    refine z_putI (pc' := 14) (L' := [(1, some 3, fun _ => (I 1 3)), (1, some 4, fun _ => (I 1 4)), (1, some 5, fun _ => (I 1 5)), (1, some 6, fun _ => (I 1 6)), (4, some 1, fun _ => (0 : Int32)), (4, some 2, fun _ => (I 4 2)), (4, some 3, fun _ => (I 4 3)), (4, some 4, fun _ => (I 4 4)), (4, some 5, fun _ => (I 4 5)), (5, none, (I 5)), (16, some 2, fun _ => (I 16 2)), (18, none, (I 18))]) hc rfl rfl rfl sh_4 rfl zft_6_1 rfl (fun h => Bool.noConfusion h) rfl rfl rfl ?_
    refine g_aload_n (pc' := 15)  hc rfl rfl rfl rfl ?_
    refine g_iconst (pc' := 16) (v := (0 : Int32)) hc rfl zki_0 rfl ?_
    refine z_putI (pc' := 19) (L' := [(1, some 3, fun _ => (I 1 3)), (1, some 4, fun _ => (I 1 4)), (1, some 5, fun _ => (I 1 5)), (1, some 6, fun _ => (I 1 6)), (4, some 1, fun _ => (0 : Int32)), (4, some 2, fun _ => (0 : Int32)), (4, some 3, fun _ => (I 4 3)), (4, some 4, fun _ => (I 4 4)), (4, some 5, fun _ => (I 4 5)), (5, none, (I 5)), (16, some 2, fun _ => (I 16 2)), (18, none, (I 18))]) hc rfl rfl rfl sh_4 rfl zft_6_2 rfl (fun h => Bool.noConfusion h) rfl rfl rfl ?_
    refine g_aload_n (pc' := 20)  hc rfl rfl rfl rfl ?_
    refine g_iconst (pc' := 21) (v := (1 : Int32)) hc rfl zki_1 rfl ?_
    refine z_virt (as := [.int (1 : Int32)]) (a := 4) (r := []) hc rfl rfl rfl rfl sh_4 rfl zco_50 rfl rfl rfl ?_
    refine ok_X6_beginPart_4 (zdp hd rfl) (zwp_mono (zwp_bind h) ?_)
    rintro ⟨o2, o3, o4⟩ h
    refine z_po (pc' := 24) (st' := []) (v := none) (L' := [(1, some 3, fun _ => (I 1 3)), (1, some 4, fun _ => (I 1 4)), (1, some 5, fun _ => (I 1 5)), (1, some 6, fun _ => (I 1 6)), (4, some 1, fun _ => (0 : Int32)), (4, some 2, fun _ => (0 : Int32)), (4, some 3, fun _ => o3), (4, some 4, fun _ => o2), (4, some 5, fun _ => o4), (5, none, (I 5)), (16, some 2, fun _ => (I 16 2)), (18, none, (I 18))]) (K' := []) zco_50 rfl rfl rfl rfl rfl rfl rfl rfl ?_
    refine g_aload_n (pc' := 25)  hc rfl rfl rfl rfl ?_
    refine z_virt (as := []) (a := 1) (r := []) hc rfl rfl rfl rfl sh_1 rfl zco_83 rfl rfl rfl ?_
    refine ok_X9_advance_1 (zdp hd rfl) (zwp_mono (zwp_bind h) ?_)
    rintro ⟨o5, o6, o7, o8⟩ h
    refine z_po (pc' := 28) (st' := []) (v := none) (L' := [(1, some 3, fun _ => o8), (1, some 4, fun _ => o5), (1, some 5, fun _ => o6), (1, some 6, fun _ => o7), (4, some 1, fun _ => (0 : Int32)), (4, some 2, fun _ => (0 : Int32)), (4, some 3, fun _ => o3), (4, some 4, fun _ => o2), (4, some 5, fun _ => o4), (5, none, (I 5)), (16, some 2, fun _ => (I 16 2)), (18, none, (I 18))]) (K' := []) zco_83 rfl rfl rfl rfl rfl rfl rfl rfl ?_
    refine g_iconst (pc' := 29) (v := (0 : Int32)) hc rfl zki_0 rfl ?_
    refine g_istore (pc' := 31) (ls1 := [some (.ref 4), some (.ref 1), some (.ref 16), some (.int a3), some (.int (0 : Int32)), none]) hc rfl (zlt rfl) rfl rfl ?_
    refine g_iconst (pc' := 32) (v := (0 : Int32)) hc rfl zki_0 rfl ?_
    refine g_istore (pc' := 34) (ls1 := [some (.ref 4), some (.ref 1), some (.ref 16), some (.int a3), some (.int (0 : Int32)), some (.int (0 : Int32))]) hc rfl (zlt rfl) rfl rfl ?_
    refine zjn (G := (fun (g : Int32 × Int32 × Int32 × Int32 × Int32 × (Nat → Int32) × Int32 × Int32 × Int32 × Int32 × Int32 × (Nat → Int32) × Int32) => match g with | (y23, y25, y26, y27, y28, y29, y30, y31, y32, y33, y34, y35, y36) => ∀ z24 : Option Value, znl z24 = true → pm_ev C_X6_read (d + 1) (pm_call M cost zext d) cost (false, false) 108 0 0 Q 95 [some (.ref 4), some (.ref 1), some (.ref 16), some (.int a3), some (.int y23), z24] [] 0 0 (zS p q I [(1, some 3, fun _ => y34), (1, some 4, fun _ => y31), (1, some 5, fun _ => y32), (1, some 6, fun _ => y33), (4, some 1, fun _ => y36), (4, some 2, fun _ => y26), (4, some 3, fun _ => y27), (4, some 4, fun _ => y25), (4, some 5, fun _ => y28), (5, none, y35), (16, some 2, fun _ => y30), (18, none, y29)] J []))) (zwp_bind h) ?_ (fun h => ?_)
    · rintro ⟨y23, y25, y26, y27, y28, y29, y30, y31, y32, y33, y34, y35, y36⟩ h z24 hz24
      refine g_iload (pc' := 97)  hc rfl rfl rfl ?_
      refine g_if_ne (pc' := 100) hc rfl rfl (fun hx => ?_) (fun hx => ?_)
      · replace h := zwp_f h hx
        refine g_iload (pc' := 108)  hc rfl rfl rfl ?_
        replace h := zws h
        exact g_ireturn hc rfl rfl rfl (fun _ => ⟨rfl, rfl⟩) h
      · replace h := zwp_t h hx
        refine g_aload_n (pc' := 101)  hc rfl rfl rfl rfl ?_
        refine g_aload_n (pc' := 102)  hc rfl rfl rfl rfl ?_
        refine g_iconst (pc' := 103) (v := (0 : Int32)) hc rfl zki_0 rfl ?_
        refine z_virt (as := [.ref 16, .int (0 : Int32)]) (a := 4) (r := []) hc rfl rfl rfl rfl sh_4 rfl zco_59 rfl rfl rfl ?_
        refine ok_X6_release_4_16 (zdp hd rfl) (zwp_mono (zwp_bind h) ?_)
        rintro ⟨o37, o38, o39⟩ h
        refine z_po (pc' := 106) (st' := []) (v := none) (L' := [(1, some 3, fun _ => y34), (1, some 4, fun _ => y31), (1, some 5, fun _ => y32), (1, some 6, fun _ => y33), (4, some 1, fun _ => o39), (4, some 2, fun _ => y26), (4, some 3, fun _ => y27), (4, some 4, fun _ => y25), (4, some 5, fun _ => y28), (5, none, y35), (16, some 2, fun _ => o38), (18, none, o37)]) (K' := []) zco_59 rfl rfl rfl rfl rfl rfl rfl rfl ?_
        refine g_iload (pc' := 108)  hc rfl rfl rfl ?_
        replace h := zws h
        exact g_ireturn hc rfl rfl rfl (fun _ => ⟨rfl, rfl⟩) h
    refine zitr_ev (G := (fun (g : Int32 × Int32 × Int32 × Int32 × Int32 × Int32 × (Nat → Int32) × Int32 × Int32 × Int32 × Int32 × Int32 × (Nat → Int32) × Int32) => match g with | (x9, x10, x11, x12, x13, x14, x15, x16, x17, x18, x19, x20, x21, x22) => pm_ev C_X6_read (d + 1) (pm_call M cost zext d) cost (false, false) 108 0 0 Q 34 [some (.ref 4), some (.ref 1), some (.ref 16), some (.int a3), some (.int x9), some (.int x10)] [] 0 0 (zS p q I [(1, some 3, fun _ => x20), (1, some 4, fun _ => x17), (1, some 5, fun _ => x18), (1, some 6, fun _ => x19), (4, some 1, fun _ => x22), (4, some 2, fun _ => x12), (4, some 3, fun _ => x13), (4, some 4, fun _ => x11), (4, some 5, fun _ => x14), (5, none, x21), (16, some 2, fun _ => x16), (18, none, x15)] J []))) ?_ zFU ((0 : Int32), (0 : Int32), o2, (0 : Int32), o3, o4, (I 18), (I 16 2), o5, o6, o7, o8, (I 5), (0 : Int32)) h
    rintro ⟨x9, x10, x11, x12, x13, x14, x15, x16, x17, x18, x19, x20, x21, x22⟩ h
    refine g_iload (pc' := 36)  hc rfl rfl rfl ?_
    refine g_sipush (pc' := 39) (v := (700 : Int32)) hc rfl zks_700 rfl ?_
    refine g_icmp_ge (pc' := 42) hc rfl rfl (fun hx => ?_) (fun hx => ?_)
    · replace h := zwp_t h hx
      replace h := zwp_r h
      exact h (some (.int x10)) rfl
    · replace h := zwp_f h hx
      refine g_iload (pc' := 44)  hc rfl rfl rfl ?_
      refine g_if_ne (pc' := 47) hc rfl rfl (fun hx => ?_) (fun hx => ?_)
      · replace h := zwp_f h hx
        replace h := zwp_r h
        exact h (some (.int x10)) rfl
      · replace h := zwp_t h hx
        refine g_aload_n (pc' := 48)  hc rfl rfl rfl rfl ?_
        refine g_aload_n (pc' := 49)  hc rfl rfl rfl rfl ?_
        refine z_virt (as := [.ref 1]) (a := 4) (r := []) hc rfl rfl rfl rfl sh_4 rfl zco_49 rfl rfl rfl ?_
        refine ok_X6_isEnd_4_1 (zdp hd rfl) (zwp_mono (zwp_bind h) ?_)
        rintro r40 h
        refine z_po (pc' := 52) (st' := [.int r40]) (v := (some (.int r40))) (L' := [(1, some 3, fun _ => x20), (1, some 4, fun _ => x17), (1, some 5, fun _ => x18), (1, some 6, fun _ => x19), (4, some 1, fun _ => x22), (4, some 2, fun _ => x12), (4, some 3, fun _ => x13), (4, some 4, fun _ => x11), (4, some 5, fun _ => x14), (5, none, x21), (16, some 2, fun _ => x16), (18, none, x15)]) (K' := []) zco_49 rfl rfl rfl rfl rfl rfl rfl rfl ?_
        refine g_if_ne (pc' := 55) hc rfl rfl (fun hx => ?_) (fun hx => ?_)
        · replace h := zwp_f h hx
          replace h := zwp_r h
          exact h (some (.int x10)) rfl
        · replace h := zwp_t h hx
          refine g_aload_n (pc' := 56)  hc rfl rfl rfl rfl ?_
          refine z_getI (pc' := 59) (v := x14) hc rfl rfl rfl sh_4 rfl rfl rfl ?_
          refine zjn (G := (fun (g : Int32 × Int32 × Int32 × Int32 × Int32 × (Nat → Int32) × Int32 × (Nat → Int32) × Int32) => match g with | (j41, j42, j43, j44, j45, j46, j47, j48, j49) => pm_ev C_X6_read (d + 1) (pm_call M cost zext d) cost (false, false) 108 0 0 Q 78 [some (.ref 4), some (.ref 1), some (.ref 16), some (.int a3), some (.int x9), some (.int x10)] [.int j41] 0 0 (zS p q I [(1, some 3, fun _ => x20), (1, some 4, fun _ => x17), (1, some 5, fun _ => x18), (1, some 6, fun _ => x19), (4, some 1, fun _ => j49), (4, some 2, fun _ => j43), (4, some 3, fun _ => j44), (4, some 4, fun _ => j42), (4, some 5, fun _ => j45), (5, none, j48), (16, some 2, fun _ => j47), (18, none, j46)] J []))) (zwp_bind h) ?_ (fun h => ?_)
          · rintro ⟨j41, j42, j43, j44, j45, j46, j47, j48, j49⟩ h
            refine g_istore (pc' := 80) (ls1 := [some (.ref 4), some (.ref 1), some (.ref 16), some (.int a3), some (.int j41), some (.int x10)]) hc rfl (zlt rfl) rfl rfl ?_
            refine g_iload (pc' := 82)  hc rfl rfl rfl ?_
            refine g_if_ne (pc' := 85) hc rfl rfl (fun hx => ?_) (fun hx => ?_)
            · replace h := zwp_f h hx
              refine g_iinc (pc' := 92) (ls1 := [some (.ref 4), some (.ref 1), some (.ref 16), some (.int a3), some (.int j41), some (.int (x10 + (1 : Int32)))]) hc rfl rfl zki_1 (zlt rfl) rfl rfl ?_
              refine g_goto hc rfl ?_
              replace h := zwp_l h
              exact h
            · replace h := zwp_t h hx
              refine g_aload_n (pc' := 86)  hc rfl rfl rfl rfl ?_
              refine z_virt (as := []) (a := 1) (r := []) hc rfl rfl rfl rfl sh_1 rfl zco_83 rfl rfl rfl ?_
              refine ok_X9_advance_1 (zdp hd rfl) (zwp_mono (zwp_bind h) ?_)
              rintro ⟨o50, o51, o52, o53⟩ h
              refine z_po (pc' := 89) (st' := []) (v := none) (L' := [(1, some 3, fun _ => o53), (1, some 4, fun _ => o50), (1, some 5, fun _ => o51), (1, some 6, fun _ => o52), (4, some 1, fun _ => j49), (4, some 2, fun _ => j43), (4, some 3, fun _ => j44), (4, some 4, fun _ => j42), (4, some 5, fun _ => j45), (5, none, j48), (16, some 2, fun _ => j47), (18, none, j46)]) (K' := []) zco_83 rfl rfl rfl rfl rfl rfl rfl rfl ?_
              refine g_iinc (pc' := 92) (ls1 := [some (.ref 4), some (.ref 1), some (.ref 16), some (.int a3), some (.int j41), some (.int (x10 + (1 : Int32)))]) hc rfl rfl zki_1 (zlt rfl) rfl rfl ?_
              refine g_goto hc rfl ?_
              replace h := zwp_l h
              exact h
          refine g_if_eq (pc' := 62) hc rfl rfl (fun hx => ?_) (fun hx => ?_)
          · replace h := zwp_t h hx
            refine g_aload_n (pc' := 73)  hc rfl rfl rfl rfl ?_
            refine g_aload_n (pc' := 74)  hc rfl rfl rfl rfl ?_
            refine g_aload_n (pc' := 75)  hc rfl rfl rfl rfl ?_
            refine z_virt (as := [.ref 1, .ref 16]) (a := 4) (r := []) hc rfl rfl rfl rfl sh_4 rfl zco_55 rfl rfl rfl ?_
            refine ok_X6_readOperator_4_1_16 (zdp hd rfl) (zwp_mono (zwp_bind h) ?_)
            rintro ⟨r62, o54, o55, o56, o57, o58, o59, o60, o61⟩ h
            refine z_po (pc' := 78) (st' := [.int r62]) (v := (some (.int r62))) (L' := [(1, some 3, fun _ => x20), (1, some 4, fun _ => x17), (1, some 5, fun _ => x18), (1, some 6, fun _ => x19), (4, some 1, fun _ => o61), (4, some 2, fun _ => o55), (4, some 3, fun _ => o56), (4, some 4, fun _ => o54), (4, some 5, fun _ => o57), (5, none, o60), (16, some 2, fun _ => o59), (18, none, o58)]) (K' := []) zco_55 rfl rfl rfl rfl rfl rfl rfl rfl ?_
            replace h := zws h
            exact h
          · replace h := zwp_f h hx
            refine g_aload_n (pc' := 63)  hc rfl rfl rfl rfl ?_
            refine g_aload_n (pc' := 64)  hc rfl rfl rfl rfl ?_
            refine g_aload_n (pc' := 65)  hc rfl rfl rfl rfl ?_
            refine g_iload_n (pc' := 66)  hc rfl rfl rfl ?_
            refine z_virt (as := [.ref 1, .ref 16, .int a3]) (a := 4) (r := []) hc rfl rfl rfl rfl sh_4 rfl zco_51 rfl rfl rfl ?_
            refine ok_X6_readPart_4_1_16 (zdp hd rfl) (zwp_mono (zwp_bind h) ?_)
            rintro ⟨r71, o63, o64, o65, o66, o67, o68, o69, o70⟩ h
            refine z_po (pc' := 69) (st' := [.int r71]) (v := (some (.int r71))) (L' := [(1, some 3, fun _ => x20), (1, some 4, fun _ => x17), (1, some 5, fun _ => x18), (1, some 6, fun _ => x19), (4, some 1, fun _ => o70), (4, some 2, fun _ => o64), (4, some 3, fun _ => o65), (4, some 4, fun _ => o63), (4, some 5, fun _ => o66), (5, none, o69), (16, some 2, fun _ => o68), (18, none, o67)]) (K' := []) zco_51 rfl rfl rfl rfl rfl rfl rfl rfl ?_
            refine g_goto hc rfl ?_
            replace h := zws h
            exact h
  · replace h := zwp_f h hx
    refine g_iconst (pc' := 8) (v := (5 : Int32)) hc rfl zki_5 rfl ?_
    replace h := zws h
    exact g_ireturn hc rfl rfl rfl (fun _ => ⟨rfl, rfl⟩) h
set_option maxHeartbeats 20000000 in
set_option maxRecDepth 4000 in
theorem ok_X4_readLine_3_1_7 {p q : Nat} {I : pI} {J : pJ} {Q : pQ} {d : Nat} (hd : 11 ≤ d) (h : zwp (f_X4_readLine (I 7 12) (I 7 11) (I 7 3) (I 15) (I 13 2) (I 7 1) (I 18) (I 16 2) (I 12) (I 7 9) (I 11) (I 7 7) (I 8) (I 9) (J 7 2) (I 10) (I 7 0) (I 3 1) (I 4 4) (I 4 2) (I 4 3) (I 4 5) (I 5) (I 4 1) (I 2) (I 1 4) (I 1 5) (I 1 2) (I 1 6) (I 1 3)) (fun w => match w with | (r, o0, o1, o2, o3, o4, o5, o6, o7, o8, o9, o10, o11, o12, o13, o14, o15, o16, o17, o18, o19, o20, o21, o22, o23, o24, o25) => Q (.inl (some (.int r))) (zS p q I [(1, some 3, fun _ => o25), (1, some 4, fun _ => o22), (1, some 5, fun _ => o23), (1, some 6, fun _ => o24), (3, some 1, fun _ => o15), (4, some 1, fun _ => o21), (4, some 2, fun _ => o17), (4, some 3, fun _ => o18), (4, some 4, fun _ => o16), (4, some 5, fun _ => o19), (5, none, o20), (7, some 3, fun _ => o2), (7, some 7, fun _ => o10), (7, some 9, fun _ => o8), (7, some 11, fun _ => o1), (7, some 12, fun _ => o0), (8, none, o11), (9, none, o12), (10, none, o14), (11, none, o9), (12, none, o7), (13, some 2, fun _ => o4), (15, none, o3), (16, some 2, fun _ => o6), (18, none, o5)] J [(7, some 2, fun _ => o13)]))) : pm_call M cost zext d 33 [.ref 3, .ref 1, .ref 7] (pm_st 108 (shp p q) I J) Q := by
  obtain ⟨d, rfl⟩ := zd1 hd rfl
  have hc := pm_call_m (M := M) (cost := cost) zext_m d
  refine z_in (L := [(1, some 3, fun _ => (I 1 3)), (1, some 4, fun _ => (I 1 4)), (1, some 5, fun _ => (I 1 5)), (1, some 6, fun _ => (I 1 6)), (3, some 1, fun _ => (I 3 1)), (4, some 1, fun _ => (I 4 1)), (4, some 2, fun _ => (I 4 2)), (4, some 3, fun _ => (I 4 3)), (4, some 4, fun _ => (I 4 4)), (4, some 5, fun _ => (I 4 5)), (5, none, (I 5)), (7, some 3, fun _ => (I 7 3)), (7, some 7, fun _ => (I 7 7)), (7, some 9, fun _ => (I 7 9)), (7, some 11, fun _ => (I 7 11)), (7, some 12, fun _ => (I 7 12)), (8, none, (I 8)), (9, none, (I 9)), (10, none, (I 10)), (11, none, (I 11)), (12, none, (I 12)), (13, some 2, fun _ => (I 13 2)), (15, none, (I 15)), (16, some 2, fun _ => (I 16 2)), (18, none, (I 18))]) (K := [(7, some 2, fun _ => (J 7 2))]) (ls := [some (.ref 3), some (.ref 1), some (.ref 7)]) zmt_33 zco_33 rfl rfl (zid_s (zid_s (zid_s (zid_s (zid_s (zid_s (zid_s (zid_s (zid_s (zid_s (zid_a (zid_s (zid_s (zid_s (zid_s (zid_s (zid_a (zid_a (zid_a (zid_a (zid_a (zid_s (zid_a (zid_s (zid_a zid_n))))))))))))))))))))))))) (zid_s zid_n) ?_
  delta f_X4_readLine at h
  refine g_aload_n (pc' := 1)  hc rfl rfl rfl rfl ?_
  refine g_ldc_t (pc' := 3)  hc rfl rfl rfl ?_
  refine z_virt (as := [.retAddr 3]) (a := 1) (r := []) hc rfl rfl rfl rfl sh_1 rfl zco_90 rfl rfl rfl ?_
  refine ok_X9_isWord_1 (zdp hd rfl) (zlt rfl) (zwp_mono (zwp_bind h) ?_)
  rintro r1 h
  refine z_po (pc' := 6) (st' := [.int r1]) (v := (some (.int r1))) (L' := [(1, some 3, fun _ => (I 1 3)), (1, some 4, fun _ => (I 1 4)), (1, some 5, fun _ => (I 1 5)), (1, some 6, fun _ => (I 1 6)), (3, some 1, fun _ => (I 3 1)), (4, some 1, fun _ => (I 4 1)), (4, some 2, fun _ => (I 4 2)), (4, some 3, fun _ => (I 4 3)), (4, some 4, fun _ => (I 4 4)), (4, some 5, fun _ => (I 4 5)), (5, none, (I 5)), (7, some 3, fun _ => (I 7 3)), (7, some 7, fun _ => (I 7 7)), (7, some 9, fun _ => (I 7 9)), (7, some 11, fun _ => (I 7 11)), (7, some 12, fun _ => (I 7 12)), (8, none, (I 8)), (9, none, (I 9)), (10, none, (I 10)), (11, none, (I 11)), (12, none, (I 12)), (13, some 2, fun _ => (I 13 2)), (15, none, (I 15)), (16, some 2, fun _ => (I 16 2)), (18, none, (I 18))]) (K' := [(7, some 2, fun _ => (J 7 2))]) zco_90 rfl rfl rfl rfl rfl rfl rfl rfl ?_
  refine g_if_eq (pc' := 9) hc rfl rfl (fun hx => ?_) (fun hx => ?_)
  · replace h := zwp_t h hx
    refine g_aload_n (pc' := 16)  hc rfl rfl rfl rfl ?_
    refine g_ldc_t (pc' := 18)  hc rfl rfl rfl ?_
    refine z_virt (as := [.retAddr 4]) (a := 1) (r := []) hc rfl rfl rfl rfl sh_1 rfl zco_90 rfl rfl rfl ?_
    refine ok_X9_isWord_1 (zdp hd rfl) (zlt rfl) (zwp_mono (zwp_bind h) ?_)
    rintro r2 h
    refine z_po (pc' := 21) (st' := [.int r2]) (v := (some (.int r2))) (L' := [(1, some 3, fun _ => (I 1 3)), (1, some 4, fun _ => (I 1 4)), (1, some 5, fun _ => (I 1 5)), (1, some 6, fun _ => (I 1 6)), (3, some 1, fun _ => (I 3 1)), (4, some 1, fun _ => (I 4 1)), (4, some 2, fun _ => (I 4 2)), (4, some 3, fun _ => (I 4 3)), (4, some 4, fun _ => (I 4 4)), (4, some 5, fun _ => (I 4 5)), (5, none, (I 5)), (7, some 3, fun _ => (I 7 3)), (7, some 7, fun _ => (I 7 7)), (7, some 9, fun _ => (I 7 9)), (7, some 11, fun _ => (I 7 11)), (7, some 12, fun _ => (I 7 12)), (8, none, (I 8)), (9, none, (I 9)), (10, none, (I 10)), (11, none, (I 11)), (12, none, (I 12)), (13, some 2, fun _ => (I 13 2)), (15, none, (I 15)), (16, some 2, fun _ => (I 16 2)), (18, none, (I 18))]) (K' := [(7, some 2, fun _ => (J 7 2))]) zco_90 rfl rfl rfl rfl rfl rfl rfl rfl ?_
    refine g_if_eq (pc' := 24) hc rfl rfl (fun hx => ?_) (fun hx => ?_)
    · replace h := zwp_t h hx
      refine g_aload_n (pc' := 32)  hc rfl rfl rfl rfl ?_
      refine g_ldc_t (pc' := 34)  hc rfl rfl rfl ?_
      refine z_virt (as := [.retAddr 5]) (a := 1) (r := []) hc rfl rfl rfl rfl sh_1 rfl zco_90 rfl rfl rfl ?_
      refine ok_X9_isWord_1 (zdp hd rfl) (zlt rfl) (zwp_mono (zwp_bind h) ?_)
      rintro r3 h
      refine z_po (pc' := 37) (st' := [.int r3]) (v := (some (.int r3))) (L' := [(1, some 3, fun _ => (I 1 3)), (1, some 4, fun _ => (I 1 4)), (1, some 5, fun _ => (I 1 5)), (1, some 6, fun _ => (I 1 6)), (3, some 1, fun _ => (I 3 1)), (4, some 1, fun _ => (I 4 1)), (4, some 2, fun _ => (I 4 2)), (4, some 3, fun _ => (I 4 3)), (4, some 4, fun _ => (I 4 4)), (4, some 5, fun _ => (I 4 5)), (5, none, (I 5)), (7, some 3, fun _ => (I 7 3)), (7, some 7, fun _ => (I 7 7)), (7, some 9, fun _ => (I 7 9)), (7, some 11, fun _ => (I 7 11)), (7, some 12, fun _ => (I 7 12)), (8, none, (I 8)), (9, none, (I 9)), (10, none, (I 10)), (11, none, (I 11)), (12, none, (I 12)), (13, some 2, fun _ => (I 13 2)), (15, none, (I 15)), (16, some 2, fun _ => (I 16 2)), (18, none, (I 18))]) (K' := [(7, some 2, fun _ => (J 7 2))]) zco_90 rfl rfl rfl rfl rfl rfl rfl rfl ?_
      refine g_if_eq (pc' := 40) hc rfl rfl (fun hx => ?_) (fun hx => ?_)
      · replace h := zwp_t h hx
        refine g_aload_n (pc' := 47)  hc rfl rfl rfl rfl ?_
        refine g_ldc_t (pc' := 49)  hc rfl rfl rfl ?_
        refine z_virt (as := [.retAddr 6]) (a := 1) (r := []) hc rfl rfl rfl rfl sh_1 rfl zco_90 rfl rfl rfl ?_
        refine ok_X9_isWord_1 (zdp hd rfl) (zlt rfl) (zwp_mono (zwp_bind h) ?_)
        rintro r4 h
        refine z_po (pc' := 52) (st' := [.int r4]) (v := (some (.int r4))) (L' := [(1, some 3, fun _ => (I 1 3)), (1, some 4, fun _ => (I 1 4)), (1, some 5, fun _ => (I 1 5)), (1, some 6, fun _ => (I 1 6)), (3, some 1, fun _ => (I 3 1)), (4, some 1, fun _ => (I 4 1)), (4, some 2, fun _ => (I 4 2)), (4, some 3, fun _ => (I 4 3)), (4, some 4, fun _ => (I 4 4)), (4, some 5, fun _ => (I 4 5)), (5, none, (I 5)), (7, some 3, fun _ => (I 7 3)), (7, some 7, fun _ => (I 7 7)), (7, some 9, fun _ => (I 7 9)), (7, some 11, fun _ => (I 7 11)), (7, some 12, fun _ => (I 7 12)), (8, none, (I 8)), (9, none, (I 9)), (10, none, (I 10)), (11, none, (I 11)), (12, none, (I 12)), (13, some 2, fun _ => (I 13 2)), (15, none, (I 15)), (16, some 2, fun _ => (I 16 2)), (18, none, (I 18))]) (K' := [(7, some 2, fun _ => (J 7 2))]) zco_90 rfl rfl rfl rfl rfl rfl rfl rfl ?_
        refine g_if_eq (pc' := 55) hc rfl rfl (fun hx => ?_) (fun hx => ?_)
        · replace h := zwp_t h hx
          refine g_aload_n (pc' := 63)  hc rfl rfl rfl rfl ?_
          refine g_ldc_t (pc' := 65)  hc rfl rfl rfl ?_
          refine z_virt (as := [.retAddr 7]) (a := 1) (r := []) hc rfl rfl rfl rfl sh_1 rfl zco_90 rfl rfl rfl ?_
          refine ok_X9_isWord_1 (zdp hd rfl) (zlt rfl) (zwp_mono (zwp_bind h) ?_)
          rintro r5 h
          refine z_po (pc' := 68) (st' := [.int r5]) (v := (some (.int r5))) (L' := [(1, some 3, fun _ => (I 1 3)), (1, some 4, fun _ => (I 1 4)), (1, some 5, fun _ => (I 1 5)), (1, some 6, fun _ => (I 1 6)), (3, some 1, fun _ => (I 3 1)), (4, some 1, fun _ => (I 4 1)), (4, some 2, fun _ => (I 4 2)), (4, some 3, fun _ => (I 4 3)), (4, some 4, fun _ => (I 4 4)), (4, some 5, fun _ => (I 4 5)), (5, none, (I 5)), (7, some 3, fun _ => (I 7 3)), (7, some 7, fun _ => (I 7 7)), (7, some 9, fun _ => (I 7 9)), (7, some 11, fun _ => (I 7 11)), (7, some 12, fun _ => (I 7 12)), (8, none, (I 8)), (9, none, (I 9)), (10, none, (I 10)), (11, none, (I 11)), (12, none, (I 12)), (13, some 2, fun _ => (I 13 2)), (15, none, (I 15)), (16, some 2, fun _ => (I 16 2)), (18, none, (I 18))]) (K' := [(7, some 2, fun _ => (J 7 2))]) zco_90 rfl rfl rfl rfl rfl rfl rfl rfl ?_
          refine g_if_eq (pc' := 71) hc rfl rfl (fun hx => ?_) (fun hx => ?_)
          · replace h := zwp_t h hx
            refine g_aload_n (pc' := 78)  hc rfl rfl rfl rfl ?_
            refine g_ldc_t (pc' := 80)  hc rfl rfl rfl ?_
            refine z_virt (as := [.retAddr 8]) (a := 1) (r := []) hc rfl rfl rfl rfl sh_1 rfl zco_90 rfl rfl rfl ?_
            refine ok_X9_isWord_1 (zdp hd rfl) (zlt rfl) (zwp_mono (zwp_bind h) ?_)
            rintro r6 h
            refine z_po (pc' := 83) (st' := [.int r6]) (v := (some (.int r6))) (L' := [(1, some 3, fun _ => (I 1 3)), (1, some 4, fun _ => (I 1 4)), (1, some 5, fun _ => (I 1 5)), (1, some 6, fun _ => (I 1 6)), (3, some 1, fun _ => (I 3 1)), (4, some 1, fun _ => (I 4 1)), (4, some 2, fun _ => (I 4 2)), (4, some 3, fun _ => (I 4 3)), (4, some 4, fun _ => (I 4 4)), (4, some 5, fun _ => (I 4 5)), (5, none, (I 5)), (7, some 3, fun _ => (I 7 3)), (7, some 7, fun _ => (I 7 7)), (7, some 9, fun _ => (I 7 9)), (7, some 11, fun _ => (I 7 11)), (7, some 12, fun _ => (I 7 12)), (8, none, (I 8)), (9, none, (I 9)), (10, none, (I 10)), (11, none, (I 11)), (12, none, (I 12)), (13, some 2, fun _ => (I 13 2)), (15, none, (I 15)), (16, some 2, fun _ => (I 16 2)), (18, none, (I 18))]) (K' := [(7, some 2, fun _ => (J 7 2))]) zco_90 rfl rfl rfl rfl rfl rfl rfl rfl ?_
            refine g_if_eq (pc' := 86) hc rfl rfl (fun hx => ?_) (fun hx => ?_)
            · replace h := zwp_t h hx
              refine g_aload_n (pc' := 101)  hc rfl rfl rfl rfl ?_
              refine g_ldc_t (pc' := 103)  hc rfl rfl rfl ?_
              refine z_virt (as := [.retAddr 17]) (a := 1) (r := []) hc rfl rfl rfl rfl sh_1 rfl zco_90 rfl rfl rfl ?_
              refine ok_X9_isWord_1 (zdp hd rfl) (zlt rfl) (zwp_mono (zwp_bind h) ?_)
              rintro r7 h
              refine z_po (pc' := 106) (st' := [.int r7]) (v := (some (.int r7))) (L' := [(1, some 3, fun _ => (I 1 3)), (1, some 4, fun _ => (I 1 4)), (1, some 5, fun _ => (I 1 5)), (1, some 6, fun _ => (I 1 6)), (3, some 1, fun _ => (I 3 1)), (4, some 1, fun _ => (I 4 1)), (4, some 2, fun _ => (I 4 2)), (4, some 3, fun _ => (I 4 3)), (4, some 4, fun _ => (I 4 4)), (4, some 5, fun _ => (I 4 5)), (5, none, (I 5)), (7, some 3, fun _ => (I 7 3)), (7, some 7, fun _ => (I 7 7)), (7, some 9, fun _ => (I 7 9)), (7, some 11, fun _ => (I 7 11)), (7, some 12, fun _ => (I 7 12)), (8, none, (I 8)), (9, none, (I 9)), (10, none, (I 10)), (11, none, (I 11)), (12, none, (I 12)), (13, some 2, fun _ => (I 13 2)), (15, none, (I 15)), (16, some 2, fun _ => (I 16 2)), (18, none, (I 18))]) (K' := [(7, some 2, fun _ => (J 7 2))]) zco_90 rfl rfl rfl rfl rfl rfl rfl rfl ?_
              refine g_if_eq (pc' := 109) hc rfl rfl (fun hx => ?_) (fun hx => ?_)
              · replace h := zwp_t h hx
                refine g_iconst (pc' := 124) (v := (1 : Int32)) hc rfl zki_1 rfl ?_
                replace h := zws h
                exact g_ireturn hc rfl rfl rfl (fun _ => ⟨rfl, rfl⟩) h
              · replace h := zwp_f h hx
                refine g_aload_n (pc' := 110)  hc rfl rfl rfl rfl ?_
                refine z_getR (pc' := 113)  hc rfl rfl rfl sh_3 rfl rfl ?_
                refine g_aload_n (pc' := 114)  hc rfl rfl rfl rfl ?_
                refine g_aload_n (pc' := 115)  hc rfl rfl rfl rfl ?_
                refine z_getR (pc' := 118)  hc rfl rfl rfl sh_7 rfl rfl ?_
                refine g_iconst (pc' := 119) (v := (1 : Int32)) hc rfl zki_1 rfl ?_
                refine z_virt (as := [.ref 1, .ref 16, .int (1 : Int32)]) (a := 4) (r := []) hc rfl rfl rfl rfl sh_4 rfl zco_48 rfl rfl rfl ?_
                refine ok_X6_read_4_1_16 (zdp hd rfl) (zwp_mono (zwp_bind h) ?_)
                rintro ⟨r20, o8, o9, o10, o11, o12, o13, o14, o15, o16, o17, o18, o19⟩ h
                refine z_po (pc' := 122) (st' := [.int r20]) (v := (some (.int r20))) (L' := [(1, some 3, fun _ => o17), (1, some 4, fun _ => o14), (1, some 5, fun _ => o15), (1, some 6, fun _ => o16), (3, some 1, fun _ => (I 3 1)), (4, some 1, fun _ => o19), (4, some 2, fun _ => o9), (4, some 3, fun _ => o10), (4, some 4, fun _ => o8), (4, some 5, fun _ => o11), (5, none, o18), (7, some 3, fun _ => (I 7 3)), (7, some 7, fun _ => (I 7 7)), (7, some 9, fun _ => (I 7 9)), (7, some 11, fun _ => (I 7 11)), (7, some 12, fun _ => (I 7 12)), (8, none, (I 8)), (9, none, (I 9)), (10, none, (I 10)), (11, none, (I 11)), (12, none, (I 12)), (13, some 2, fun _ => (I 13 2)), (15, none, (I 15)), (16, some 2, fun _ => o13), (18, none, o12)]) (K' := [(7, some 2, fun _ => (J 7 2))]) zco_48 rfl rfl rfl rfl rfl rfl rfl rfl ?_
                replace h := zws h
                exact g_ireturn hc rfl rfl rfl (fun _ => ⟨rfl, rfl⟩) h
            · replace h := zwp_f h hx
              refine g_aload_n (pc' := 87)  hc rfl rfl rfl rfl ?_
              refine z_getR (pc' := 90)  hc rfl rfl rfl sh_3 rfl rfl ?_
              refine g_aload_n (pc' := 91)  hc rfl rfl rfl rfl ?_
              refine g_aload_n (pc' := 92)  hc rfl rfl rfl rfl ?_
              refine z_getR (pc' := 95)  hc rfl rfl rfl sh_7 rfl rfl ?_
              refine g_iconst (pc' := 96) (v := (0 : Int32)) hc rfl zki_0 rfl ?_
              refine z_virt (as := [.ref 1, .ref 13, .int (0 : Int32)]) (a := 4) (r := []) hc rfl rfl rfl rfl sh_4 rfl zco_48 rfl rfl rfl ?_
              refine ok_X6_read_4_1_13 (zdp hd rfl) (zwp_mono (zwp_bind h) ?_)
              rintro ⟨r33, o21, o22, o23, o24, o25, o26, o27, o28, o29, o30, o31, o32⟩ h
              refine z_po (pc' := 99) (st' := [.int r33]) (v := (some (.int r33))) (L' := [(1, some 3, fun _ => o30), (1, some 4, fun _ => o27), (1, some 5, fun _ => o28), (1, some 6, fun _ => o29), (3, some 1, fun _ => (I 3 1)), (4, some 1, fun _ => o32), (4, some 2, fun _ => o22), (4, some 3, fun _ => o23), (4, some 4, fun _ => o21), (4, some 5, fun _ => o24), (5, none, o31), (7, some 3, fun _ => (I 7 3)), (7, some 7, fun _ => (I 7 7)), (7, some 9, fun _ => (I 7 9)), (7, some 11, fun _ => (I 7 11)), (7, some 12, fun _ => (I 7 12)), (8, none, (I 8)), (9, none, (I 9)), (10, none, (I 10)), (11, none, (I 11)), (12, none, (I 12)), (13, some 2, fun _ => o26), (15, none, o25), (16, some 2, fun _ => (I 16 2)), (18, none, (I 18))]) (K' := [(7, some 2, fun _ => (J 7 2))]) zco_48 rfl rfl rfl rfl rfl rfl rfl rfl ?_
              replace h := zws h
              exact g_ireturn hc rfl rfl rfl (fun _ => ⟨rfl, rfl⟩) h
          · replace h := zwp_f h hx
            refine g_aload_n (pc' := 72)  hc rfl rfl rfl rfl ?_
            refine g_aload_n (pc' := 73)  hc rfl rfl rfl rfl ?_
            refine z_stat (as := [.ref 1, .ref 7]) (r := []) hc rfl rfl rfl rfl zco_40 rfl rfl rfl ?_
            refine ok_X4_readDull_1_7 (zdp hd rfl) (zwp_mono (zwp_bind h) ?_)
            rintro ⟨r40, o34, o35, o36, o37, o38, o39⟩ h
            refine z_po (pc' := 76) (st' := [.int r40]) (v := (some (.int r40))) (L' := [(1, some 3, fun _ => o39), (1, some 4, fun _ => o36), (1, some 5, fun _ => o37), (1, some 6, fun _ => o38), (3, some 1, fun _ => (I 3 1)), (4, some 1, fun _ => (I 4 1)), (4, some 2, fun _ => (I 4 2)), (4, some 3, fun _ => (I 4 3)), (4, some 4, fun _ => (I 4 4)), (4, some 5, fun _ => (I 4 5)), (5, none, (I 5)), (7, some 3, fun _ => (I 7 3)), (7, some 7, fun _ => (I 7 7)), (7, some 9, fun _ => (I 7 9)), (7, some 11, fun _ => o35), (7, some 12, fun _ => o34), (8, none, (I 8)), (9, none, (I 9)), (10, none, (I 10)), (11, none, (I 11)), (12, none, (I 12)), (13, some 2, fun _ => (I 13 2)), (15, none, (I 15)), (16, some 2, fun _ => (I 16 2)), (18, none, (I 18))]) (K' := [(7, some 2, fun _ => (J 7 2))]) zco_40 rfl rfl rfl rfl rfl rfl rfl rfl ?_
            replace h := zws h
            exact g_ireturn hc rfl rfl rfl (fun _ => ⟨rfl, rfl⟩) h
        · replace h := zwp_f h hx
          refine g_aload_n (pc' := 56)  hc rfl rfl rfl rfl ?_
          refine g_aload_n (pc' := 57)  hc rfl rfl rfl rfl ?_
          refine g_aload_n (pc' := 58)  hc rfl rfl rfl rfl ?_
          refine z_virt (as := [.ref 1, .ref 7]) (a := 3) (r := []) hc rfl rfl rfl rfl sh_3 rfl zco_38 rfl rfl rfl ?_
          refine ok_X4_readLight_3_1_7 (zdp hd rfl) (zwp_mono (zwp_bind h) ?_)
          rintro ⟨r48, o41, o42, o43, o44, o45, o46, o47⟩ h
          refine z_po (pc' := 61) (st' := [.int r48]) (v := (some (.int r48))) (L' := [(1, some 3, fun _ => o47), (1, some 4, fun _ => o44), (1, some 5, fun _ => o45), (1, some 6, fun _ => o46), (3, some 1, fun _ => o43), (4, some 1, fun _ => (I 4 1)), (4, some 2, fun _ => (I 4 2)), (4, some 3, fun _ => (I 4 3)), (4, some 4, fun _ => (I 4 4)), (4, some 5, fun _ => (I 4 5)), (5, none, (I 5)), (7, some 3, fun _ => (I 7 3)), (7, some 7, fun _ => (I 7 7)), (7, some 9, fun _ => o42), (7, some 11, fun _ => (I 7 11)), (7, some 12, fun _ => (I 7 12)), (8, none, (I 8)), (9, none, (I 9)), (10, none, (I 10)), (11, none, (I 11)), (12, none, o41), (13, some 2, fun _ => (I 13 2)), (15, none, (I 15)), (16, some 2, fun _ => (I 16 2)), (18, none, (I 18))]) (K' := [(7, some 2, fun _ => (J 7 2))]) zco_38 rfl rfl rfl rfl rfl rfl rfl rfl ?_
          replace h := zws h
          exact g_ireturn hc rfl rfl rfl (fun _ => ⟨rfl, rfl⟩) h
      · replace h := zwp_f h hx
        refine g_aload_n (pc' := 41)  hc rfl rfl rfl rfl ?_
        refine g_aload_n (pc' := 42)  hc rfl rfl rfl rfl ?_
        refine z_stat (as := [.ref 1, .ref 7]) (r := []) hc rfl rfl rfl rfl zco_37 rfl rfl rfl ?_
        refine ok_X4_readSeat_1_7 (zdp hd rfl) (zwp_mono (zwp_bind h) ?_)
        rintro ⟨r55, o49, o50, o51, o52, o53, o54⟩ h
        refine z_po (pc' := 45) (st' := [.int r55]) (v := (some (.int r55))) (L' := [(1, some 3, fun _ => o54), (1, some 4, fun _ => o51), (1, some 5, fun _ => o52), (1, some 6, fun _ => o53), (3, some 1, fun _ => (I 3 1)), (4, some 1, fun _ => (I 4 1)), (4, some 2, fun _ => (I 4 2)), (4, some 3, fun _ => (I 4 3)), (4, some 4, fun _ => (I 4 4)), (4, some 5, fun _ => (I 4 5)), (5, none, (I 5)), (7, some 3, fun _ => (I 7 3)), (7, some 7, fun _ => o50), (7, some 9, fun _ => (I 7 9)), (7, some 11, fun _ => (I 7 11)), (7, some 12, fun _ => (I 7 12)), (8, none, (I 8)), (9, none, (I 9)), (10, none, (I 10)), (11, none, o49), (12, none, (I 12)), (13, some 2, fun _ => (I 13 2)), (15, none, (I 15)), (16, some 2, fun _ => (I 16 2)), (18, none, (I 18))]) (K' := [(7, some 2, fun _ => (J 7 2))]) zco_37 rfl rfl rfl rfl rfl rfl rfl rfl ?_
        replace h := zws h
        exact g_ireturn hc rfl rfl rfl (fun _ => ⟨rfl, rfl⟩) h
    · replace h := zwp_f h hx
      refine g_aload_n (pc' := 25)  hc rfl rfl rfl rfl ?_
      refine g_aload_n (pc' := 26)  hc rfl rfl rfl rfl ?_
      refine g_aload_n (pc' := 27)  hc rfl rfl rfl rfl ?_
      refine z_virt (as := [.ref 1, .ref 7]) (a := 3) (r := []) hc rfl rfl rfl rfl sh_3 rfl zco_36 rfl rfl rfl ?_
      refine ok_X4_readFigure_3_1_7 (zdp hd rfl) (zwp_mono (zwp_bind h) ?_)
      rintro ⟨r65, o56, o57, o58, o59, o60, o61, o62, o63, o64⟩ h
      refine z_po (pc' := 30) (st' := [.int r65]) (v := (some (.int r65))) (L' := [(1, some 3, fun _ => o64), (1, some 4, fun _ => o61), (1, some 5, fun _ => o62), (1, some 6, fun _ => o63), (3, some 1, fun _ => o60), (4, some 1, fun _ => (I 4 1)), (4, some 2, fun _ => (I 4 2)), (4, some 3, fun _ => (I 4 3)), (4, some 4, fun _ => (I 4 4)), (4, some 5, fun _ => (I 4 5)), (5, none, (I 5)), (7, some 3, fun _ => o56), (7, some 7, fun _ => (I 7 7)), (7, some 9, fun _ => (I 7 9)), (7, some 11, fun _ => (I 7 11)), (7, some 12, fun _ => (I 7 12)), (8, none, o57), (9, none, o58), (10, none, o59), (11, none, (I 11)), (12, none, (I 12)), (13, some 2, fun _ => (I 13 2)), (15, none, (I 15)), (16, some 2, fun _ => (I 16 2)), (18, none, (I 18))]) (K' := [(7, some 2, fun _ => (J 7 2))]) zco_36 rfl rfl rfl rfl rfl rfl rfl rfl ?_
      replace h := zws h
      exact g_ireturn hc rfl rfl rfl (fun _ => ⟨rfl, rfl⟩) h
  · replace h := zwp_f h hx
    refine g_aload_n (pc' := 10)  hc rfl rfl rfl rfl ?_
    refine g_aload_n (pc' := 11)  hc rfl rfl rfl rfl ?_
    refine z_stat (as := [.ref 1, .ref 7]) (r := []) hc rfl rfl rfl rfl zco_35 rfl rfl rfl ?_
    refine ok_X4_readWall_1_7 (zdp hd rfl) (zwp_mono (zwp_bind h) ?_)
    rintro ⟨r71, o66, o67, o68, o69, o70⟩ h
    refine z_po (pc' := 14) (st' := [.int r71]) (v := (some (.int r71))) (L' := [(1, some 3, fun _ => o70), (1, some 4, fun _ => o67), (1, some 5, fun _ => o68), (1, some 6, fun _ => o69), (3, some 1, fun _ => (I 3 1)), (4, some 1, fun _ => (I 4 1)), (4, some 2, fun _ => (I 4 2)), (4, some 3, fun _ => (I 4 3)), (4, some 4, fun _ => (I 4 4)), (4, some 5, fun _ => (I 4 5)), (5, none, (I 5)), (7, some 3, fun _ => (I 7 3)), (7, some 7, fun _ => (I 7 7)), (7, some 9, fun _ => (I 7 9)), (7, some 11, fun _ => (I 7 11)), (7, some 12, fun _ => (I 7 12)), (8, none, (I 8)), (9, none, (I 9)), (10, none, (I 10)), (11, none, (I 11)), (12, none, (I 12)), (13, some 2, fun _ => (I 13 2)), (15, none, (I 15)), (16, some 2, fun _ => (I 16 2)), (18, none, (I 18))]) (K' := [(7, some 2, fun _ => o66)]) zco_35 rfl rfl rfl rfl rfl rfl rfl rfl ?_
    replace h := zws h
    exact g_ireturn hc rfl rfl rfl (fun _ => ⟨rfl, rfl⟩) h
set_option maxHeartbeats 20000000 in
set_option maxRecDepth 4000 in
theorem ok_X4_read_3_1_7 {p q : Nat} {I : pI} {J : pJ} {a2 : Int32} {Q : pQ} {d : Nat} (hd : 12 ≤ d) (h : zwp (f_X4_read a2 (I 7 12) (I 7 11) (I 7 3) (I 15) (I 13 2) (I 7 1) (I 18) (I 16 2) (I 12) (I 7 9) (I 11) (I 7 7) (I 8) (I 9) (J 7 2) (I 10) (I 7 0) (I 3 1) (I 4 4) (I 4 2) (I 4 3) (I 4 5) (I 5) (I 4 1) (I 2) (I 1 4) (I 1 5) (I 1 2) (I 1 6) (I 1 3)) (fun w => match w with | (r, o0, o1, o2, o3, o4, o5, o6, o7, o8, o9, o10, o11, o12, o13, o14, o15, o16, o17, o18, o19, o20, o21, o22, o23, o24, o25, o26, o27, o28) => Q (.inl (some (.int r))) (zS p q I [(1, some 2, fun _ => o26), (1, some 3, fun _ => o28), (1, some 4, fun _ => o24), (1, some 5, fun _ => o25), (1, some 6, fun _ => o27), (3, some 1, fun _ => o17), (4, some 1, fun _ => o23), (4, some 2, fun _ => o19), (4, some 3, fun _ => o20), (4, some 4, fun _ => o18), (4, some 5, fun _ => o21), (5, none, o22), (7, some 0, fun _ => o16), (7, some 1, fun _ => o5), (7, some 3, fun _ => o2), (7, some 7, fun _ => o11), (7, some 9, fun _ => o9), (7, some 11, fun _ => o1), (7, some 12, fun _ => o0), (8, none, o12), (9, none, o13), (10, none, o15), (11, none, o10), (12, none, o8), (13, some 2, fun _ => o4), (15, none, o3), (16, some 2, fun _ => o7), (18, none, o6)] J [(7, some 2, fun _ => o14)]))) : pm_call M cost zext d 30 [.ref 3, .ref 1, .int a2, .ref 7] (pm_st 108 (shp p q) I J) Q := by
  obtain ⟨d, rfl⟩ := zd1 hd rfl
  have hc := pm_call_m (M := M) (cost := cost) zext_m d
  refine z_in (L := [(1, some 2, fun _ => (I 1 2)), (1, some 3, fun _ => (I 1 3)), (1, some 4, fun _ => (I 1 4)), (1, some 5, fun _ => (I 1 5)), (1, some 6, fun _ => (I 1 6)), (3, some 1, fun _ => (I 3 1)), (4, some 1, fun _ => (I 4 1)), (4, some 2, fun _ => (I 4 2)), (4, some 3, fun _ => (I 4 3)), (4, some 4, fun _ => (I 4 4)), (4, some 5, fun _ => (I 4 5)), (5, none, (I 5)), (7, some 0, fun _ => (I 7 0)), (7, some 1, fun _ => (I 7 1)), (7, some 3, fun _ => (I 7 3)), (7, some 7, fun _ => (I 7 7)), (7, some 9, fun _ => (I 7 9)), (7, some 11, fun _ => (I 7 11)), (7, some 12, fun _ => (I 7 12)), (8, none, (I 8)), (9, none, (I 9)), (10, none, (I 10)), (11, none, (I 11)), (12, none, (I 12)), (13, some 2, fun _ => (I 13 2)), (15, none, (I 15)), (16, some 2, fun _ => (I 16 2)), (18, none, (I 18))]) (K := [(7, some 2, fun _ => (J 7 2))]) (ls := [some (.ref 3), some (.ref 1), some (.int a2), some (.ref 7), none, none]) zmt_30 zco_30 rfl rfl (zid_s (zid_s (zid_s (zid_s (zid_s (zid_s (zid_s (zid_s (zid_s (zid_s (zid_s (zid_a (zid_s (zid_s (zid_s (zid_s (zid_s (zid_s (zid_s (zid_a (zid_a (zid_a (zid_a (zid_a (zid_s (zid_a (zid_s (zid_a zid_n)))))))))))))))))))))))))))) (zid_s zid_n) ?_
  delta f_X4_read at h
  refine g_aload_n (pc' := 1)  hc rfl rfl rfl rfl ?_
  refine z_virt (as := []) (a := 7) (r := []) hc rfl rfl rfl rfl sh_7 rfl zco_20 rfl rfl rfl ?_
  refine ok_X3_clear_7 (zdp hd rfl) (zwp_mono (zwp_bind h) ?_)
  rintro ⟨o1, o2, o3, o4, o5, o6, o7, o8, o9, o10⟩ h
  refine z_po (pc' := 4) (st' := []) (v := none) (L' := [(1, some 2, fun _ => (I 1 2)), (1, some 3, fun _ => (I 1 3)), (1, some 4, fun _ => (I 1 4)), (1, some 5, fun _ => (I 1 5)), (1, some 6, fun _ => (I 1 6)), (3, some 1, fun _ => (I 3 1)), (4, some 1, fun _ => (I 4 1)), (4, some 2, fun _ => (I 4 2)), (4, some 3, fun _ => (I 4 3)), (4, some 4, fun _ => (I 4 4)), (4, some 5, fun _ => (I 4 5)), (5, none, (I 5)), (7, some 0, fun _ => o10), (7, some 1, fun _ => o5), (7, some 3, fun _ => o3), (7, some 7, fun _ => o8), (7, some 9, fun _ => o7), (7, some 11, fun _ => o2), (7, some 12, fun _ => o1), (8, none, (I 8)), (9, none, (I 9)), (10, none, (I 10)), (11, none, (I 11)), (12, none, (I 12)), (13, some 2, fun _ => o4), (15, none, (I 15)), (16, some 2, fun _ => o6), (18, none, (I 18))]) (K' := [(7, some 2, fun _ => o9)]) zco_20 rfl rfl rfl rfl rfl rfl rfl rfl ?_
  refine g_aload_n (pc' := 5)  hc rfl rfl rfl rfl ?_
  refine g_iload_n (pc' := 6)  hc rfl rfl rfl ?_
  refine z_virt (as := [.int a2]) (a := 1) (r := []) hc rfl rfl rfl rfl sh_1 rfl zco_82 rfl rfl rfl ?_
  refine ok_X9_begin_1 (zdp hd rfl) (zwp_mono (zwp_bind h) ?_)
  rintro ⟨o11, o12, o13, o14, o15⟩ h
  refine z_po (pc' := 9) (st' := []) (v := none) (L' := [(1, some 2, fun _ => o13), (1, some 3, fun _ => o15), (1, some 4, fun _ => o11), (1, some 5, fun _ => o12), (1, some 6, fun _ => o14), (3, some 1, fun _ => (I 3 1)), (4, some 1, fun _ => (I 4 1)), (4, some 2, fun _ => (I 4 2)), (4, some 3, fun _ => (I 4 3)), (4, some 4, fun _ => (I 4 4)), (4, some 5, fun _ => (I 4 5)), (5, none, (I 5)), (7, some 0, fun _ => o10), (7, some 1, fun _ => o5), (7, some 3, fun _ => o3), (7, some 7, fun _ => o8), (7, some 9, fun _ => o7), (7, some 11, fun _ => o2), (7, some 12, fun _ => o1), (8, none, (I 8)), (9, none, (I 9)), (10, none, (I 10)), (11, none, (I 11)), (12, none, (I 12)), (13, some 2, fun _ => o4), (15, none, (I 15)), (16, some 2, fun _ => o6), (18, none, (I 18))]) (K' := [(7, some 2, fun _ => o9)]) zco_82 rfl rfl rfl rfl rfl rfl rfl rfl ?_
  refine g_aload_n (pc' := 10)  hc rfl rfl rfl rfl ?_
  refine g_ldc_t (pc' := 12)  hc rfl rfl rfl ?_
  refine z_virt (as := [.retAddr 2]) (a := 1) (r := []) hc rfl rfl rfl rfl sh_1 rfl zco_90 rfl rfl rfl ?_
  refine ok_X9_isWord_1 (zdp hd rfl) (zlt rfl) (zwp_mono (zwp_bind h) ?_)
  rintro r16 h
  refine z_po (pc' := 15) (st' := [.int r16]) (v := (some (.int r16))) (L' := [(1, some 2, fun _ => o13), (1, some 3, fun _ => o15), (1, some 4, fun _ => o11), (1, some 5, fun _ => o12), (1, some 6, fun _ => o14), (3, some 1, fun _ => (I 3 1)), (4, some 1, fun _ => (I 4 1)), (4, some 2, fun _ => (I 4 2)), (4, some 3, fun _ => (I 4 3)), (4, some 4, fun _ => (I 4 4)), (4, some 5, fun _ => (I 4 5)), (5, none, (I 5)), (7, some 0, fun _ => o10), (7, some 1, fun _ => o5), (7, some 3, fun _ => o3), (7, some 7, fun _ => o8), (7, some 9, fun _ => o7), (7, some 11, fun _ => o2), (7, some 12, fun _ => o1), (8, none, (I 8)), (9, none, (I 9)), (10, none, (I 10)), (11, none, (I 11)), (12, none, (I 12)), (13, some 2, fun _ => o4), (15, none, (I 15)), (16, some 2, fun _ => o6), (18, none, (I 18))]) (K' := [(7, some 2, fun _ => o9)]) zco_90 rfl rfl rfl rfl rfl rfl rfl rfl ?_
  refine zjn (G := (fun (g : Int32 × Int32 × Int32 × Int32 × Int32 × Int32 × Int32) => match g with | (j17, j18, j19, j20, j21, j22, j23) => pm_ev C_X4_read (d + 1) (pm_call M cost zext d) cost (false, false) 108 0 0 Q 28 [some (.ref 3), some (.ref 1), some (.int a2), some (.ref 7), none, none] [.int j17] 0 0 (zS p q I [(1, some 2, fun _ => o13), (1, some 3, fun _ => j23), (1, some 4, fun _ => j20), (1, some 5, fun _ => j21), (1, some 6, fun _ => j22), (3, some 1, fun _ => (I 3 1)), (4, some 1, fun _ => (I 4 1)), (4, some 2, fun _ => (I 4 2)), (4, some 3, fun _ => (I 4 3)), (4, some 4, fun _ => (I 4 4)), (4, some 5, fun _ => (I 4 5)), (5, none, (I 5)), (7, some 0, fun _ => j19), (7, some 1, fun _ => j18), (7, some 3, fun _ => o3), (7, some 7, fun _ => o8), (7, some 9, fun _ => o7), (7, some 11, fun _ => o2), (7, some 12, fun _ => o1), (8, none, (I 8)), (9, none, (I 9)), (10, none, (I 10)), (11, none, (I 11)), (12, none, (I 12)), (13, some 2, fun _ => o4), (15, none, (I 15)), (16, some 2, fun _ => o6), (18, none, (I 18))] J [(7, some 2, fun _ => o9)]))) (zwp_bind h) ?_ (fun h => ?_)
  · rintro ⟨j17, j18, j19, j20, j21, j22, j23⟩ h
    refine g_istore (pc' := 30) (ls1 := [some (.ref 3), some (.ref 1), some (.int a2), some (.ref 7), some (.int j17), none]) hc rfl (zlt rfl) rfl rfl ?_
    refine g_iconst (pc' := 31) (v := (0 : Int32)) hc rfl zki_0 rfl ?_
    refine g_istore (pc' := 33) (ls1 := [some (.ref 3), some (.ref 1), some (.int a2), some (.ref 7), some (.int j17), some (.int (0 : Int32))]) hc rfl (zlt rfl) rfl rfl ?_
    refine zjn (G := (fun (g : Int32 × Int32 × Int32 × Int32 × (Nat → Int32) × Int32 × (Nat → Int32) × Int32 × (Nat → Int32) × Int32 × (Nat → Int32) × Int32 × (Nat → Int32) × (Nat → Int32) × Int64 × (Nat → Int32) × Int32 × Int32 × Int32 × Int32 × Int32 × (Nat → Int32) × Int32 × Int32 × Int32 × Int32 × Int32) => match g with | (y52, y54, y55, y56, y57, y58, y59, y60, y61, y62, y63, y64, y65, y66, y67, y68, y69, y70, y71, y72, y73, y74, y75, y76, y77, y78, y79) => ∀ z53 : Option Value, znl z53 = true → pm_ev C_X4_read (d + 1) (pm_call M cost zext d) cost (false, false) 108 0 0 Q 78 [some (.ref 3), some (.ref 1), some (.int a2), some (.ref 7), some (.int y52), z53] [] 0 0 (zS p q I [(1, some 2, fun _ => o13), (1, some 3, fun _ => y79), (1, some 4, fun _ => y76), (1, some 5, fun _ => y77), (1, some 6, fun _ => y78), (3, some 1, fun _ => y69), (4, some 1, fun _ => y75), (4, some 2, fun _ => y71), (4, some 3, fun _ => y72), (4, some 4, fun _ => y70), (4, some 5, fun _ => y73), (5, none, y74), (7, some 0, fun _ => j19), (7, some 1, fun _ => j18), (7, some 3, fun _ => y56), (7, some 7, fun _ => y64), (7, some 9, fun _ => y62), (7, some 11, fun _ => y55), (7, some 12, fun _ => y54), (8, none, y65), (9, none, y66), (10, none, y68), (11, none, y63), (12, none, y61), (13, some 2, fun _ => y58), (15, none, y57), (16, some 2, fun _ => y60), (18, none, y59)] J [(7, some 2, fun _ => y67)]))) (zwp_bind h) ?_ (fun h => ?_)
    · rintro ⟨y52, y54, y55, y56, y57, y58, y59, y60, y61, y62, y63, y64, y65, y66, y67, y68, y69, y70, y71, y72, y73, y74, y75, y76, y77, y78, y79⟩ h z53 hz53
      refine g_iload (pc' := 80)  hc rfl rfl rfl ?_
      replace h := zws h
      exact g_ireturn hc rfl rfl rfl (fun _ => ⟨rfl, rfl⟩) h
    refine zitr_ev (G := (fun (g : Int32 × Int32 × Int32 × Int32 × Int32 × (Nat → Int32) × Int32 × (Nat → Int32) × Int32 × (Nat → Int32) × Int32 × (Nat → Int32) × Int32 × (Nat → Int32) × (Nat → Int32) × Int64 × (Nat → Int32) × Int32 × Int32 × Int32 × Int32 × Int32 × (Nat → Int32) × Int32 × Int32 × Int32 × Int32 × Int32) => match g with | (x24, x25, x26, x27, x28, x29, x30, x31, x32, x33, x34, x35, x36, x37, x38, x39, x40, x41, x42, x43, x44, x45, x46, x47, x48, x49, x50, x51) => pm_ev C_X4_read (d + 1) (pm_call M cost zext d) cost (false, false) 108 0 0 Q 33 [some (.ref 3), some (.ref 1), some (.int a2), some (.ref 7), some (.int x24), some (.int x25)] [] 0 0 (zS p q I [(1, some 2, fun _ => o13), (1, some 3, fun _ => x51), (1, some 4, fun _ => x48), (1, some 5, fun _ => x49), (1, some 6, fun _ => x50), (3, some 1, fun _ => x41), (4, some 1, fun _ => x47), (4, some 2, fun _ => x43), (4, some 3, fun _ => x44), (4, some 4, fun _ => x42), (4, some 5, fun _ => x45), (5, none, x46), (7, some 0, fun _ => j19), (7, some 1, fun _ => j18), (7, some 3, fun _ => x28), (7, some 7, fun _ => x36), (7, some 9, fun _ => x34), (7, some 11, fun _ => x27), (7, some 12, fun _ => x26), (8, none, x37), (9, none, x38), (10, none, x40), (11, none, x35), (12, none, x33), (13, some 2, fun _ => x30), (15, none, x29), (16, some 2, fun _ => x32), (18, none, x31)] J [(7, some 2, fun _ => x39)]))) ?_ zFU (j17, (0 : Int32), o1, o2, o3, (I 15), o4, (I 18), o6, (I 12), o7, (I 11), o8, (I 8), (I 9), o9, (I 10), (I 3 1), (I 4 4), (I 4 2), (I 4 3), (I 4 5), (I 5), (I 4 1), j20, j21, j22, j23) h
    rintro ⟨x24, x25, x26, x27, x28, x29, x30, x31, x32, x33, x34, x35, x36, x37, x38, x39, x40, x41, x42, x43, x44, x45, x46, x47, x48, x49, x50, x51⟩ h
    refine g_iload (pc' := 35)  hc rfl rfl rfl ?_
    refine g_sipush (pc' := 38) (v := (700 : Int32)) hc rfl zks_700 rfl ?_
    refine g_icmp_ge (pc' := 41) hc rfl rfl (fun hx => ?_) (fun hx => ?_)
    · replace h := zwp_t h hx
      replace h := zwp_r h
      exact h (some (.int x25)) rfl
    · replace h := zwp_f h hx
      refine g_iload (pc' := 43)  hc rfl rfl rfl ?_
      refine g_if_ne (pc' := 46) hc rfl rfl (fun hx => ?_) (fun hx => ?_)
      · replace h := zwp_f h hx
        replace h := zwp_r h
        exact h (some (.int x25)) rfl
      · replace h := zwp_t h hx
        refine g_aload_n (pc' := 47)  hc rfl rfl rfl rfl ?_
        refine z_getI (pc' := 50) (v := x49) hc rfl rfl rfl sh_1 rfl rfl rfl ?_
        refine g_if_eq (pc' := 53) hc rfl rfl (fun hx => ?_) (fun hx => ?_)
        · replace h := zwp_t h hx
          replace h := zwp_r h
          exact h (some (.int x25)) rfl
        · replace h := zwp_f h hx
          refine g_aload_n (pc' := 54)  hc rfl rfl rfl rfl ?_
          refine g_aload_n (pc' := 55)  hc rfl rfl rfl rfl ?_
          refine g_aload_n (pc' := 56)  hc rfl rfl rfl rfl ?_
          refine z_virt (as := [.ref 1, .ref 7]) (a := 3) (r := []) hc rfl rfl rfl rfl sh_3 rfl zco_33 rfl rfl rfl ?_
          refine ok_X4_readLine_3_1_7 (zdp hd rfl) (zwp_mono (zwp_bind h) ?_)
          rintro ⟨r106, o80, o81, o82, o83, o84, o85, o86, o87, o88, o89, o90, o91, o92, o93, o94, o95, o96, o97, o98, o99, o100, o101, o102, o103, o104, o105⟩ h
          refine z_po (pc' := 59) (st' := [.int r106]) (v := (some (.int r106))) (L' := [(1, some 2, fun _ => o13), (1, some 3, fun _ => o105), (1, some 4, fun _ => o102), (1, some 5, fun _ => o103), (1, some 6, fun _ => o104), (3, some 1, fun _ => o95), (4, some 1, fun _ => o101), (4, some 2, fun _ => o97), (4, some 3, fun _ => o98), (4, some 4, fun _ => o96), (4, some 5, fun _ => o99), (5, none, o100), (7, some 0, fun _ => j19), (7, some 1, fun _ => j18), (7, some 3, fun _ => o82), (7, some 7, fun _ => o90), (7, some 9, fun _ => o88), (7, some 11, fun _ => o81), (7, some 12, fun _ => o80), (8, none, o91), (9, none, o92), (10, none, o94), (11, none, o89), (12, none, o87), (13, some 2, fun _ => o84), (15, none, o83), (16, some 2, fun _ => o86), (18, none, o85)]) (K' := [(7, some 2, fun _ => o93)]) zco_33 rfl rfl rfl rfl rfl rfl rfl rfl ?_
          refine g_istore (pc' := 61) (ls1 := [some (.ref 3), some (.ref 1), some (.int a2), some (.ref 7), some (.int r106), some (.int x25)]) hc rfl (zlt rfl) rfl rfl ?_
          refine g_iload (pc' := 63)  hc rfl rfl rfl ?_
          refine g_if_ne (pc' := 66) hc rfl rfl (fun hx => ?_) (fun hx => ?_)
          · replace h := zwp_f h hx
            refine g_iinc (pc' := 75) (ls1 := [some (.ref 3), some (.ref 1), some (.int a2), some (.ref 7), some (.int r106), some (.int (x25 + (1 : Int32)))]) hc rfl rfl zki_1 (zlt rfl) rfl rfl ?_
            refine g_goto hc rfl ?_
            replace h := zwp_l h
            exact h
          · replace h := zwp_t h hx
            refine g_aload_n (pc' := 67)  hc rfl rfl rfl rfl ?_
            refine z_stat (as := [.ref 1]) (r := []) hc rfl rfl rfl rfl zco_32 rfl rfl rfl ?_
            refine ok_X4_readStop_1 (zdp hd rfl) (zwp_mono (zwp_bind h) ?_)
            rintro ⟨r111, o107, o108, o109, o110⟩ h
            refine z_po (pc' := 70) (st' := [.int r111]) (v := (some (.int r111))) (L' := [(1, some 2, fun _ => o13), (1, some 3, fun _ => o110), (1, some 4, fun _ => o107), (1, some 5, fun _ => o108), (1, some 6, fun _ => o109), (3, some 1, fun _ => o95), (4, some 1, fun _ => o101), (4, some 2, fun _ => o97), (4, some 3, fun _ => o98), (4, some 4, fun _ => o96), (4, some 5, fun _ => o99), (5, none, o100), (7, some 0, fun _ => j19), (7, some 1, fun _ => j18), (7, some 3, fun _ => o82), (7, some 7, fun _ => o90), (7, some 9, fun _ => o88), (7, some 11, fun _ => o81), (7, some 12, fun _ => o80), (8, none, o91), (9, none, o92), (10, none, o94), (11, none, o89), (12, none, o87), (13, some 2, fun _ => o84), (15, none, o83), (16, some 2, fun _ => o86), (18, none, o85)]) (K' := [(7, some 2, fun _ => o93)]) zco_32 rfl rfl rfl rfl rfl rfl rfl rfl ?_
            refine g_istore (pc' := 72) (ls1 := [some (.ref 3), some (.ref 1), some (.int a2), some (.ref 7), some (.int r111), some (.int x25)]) hc rfl (zlt rfl) rfl rfl ?_
            refine g_iinc (pc' := 75) (ls1 := [some (.ref 3), some (.ref 1), some (.int a2), some (.ref 7), some (.int r111), some (.int (x25 + (1 : Int32)))]) hc rfl rfl zki_1 (zlt rfl) rfl rfl ?_
            refine g_goto hc rfl ?_
            replace h := zwp_l h
            exact h
  refine g_if_eq (pc' := 18) hc rfl rfl (fun hx => ?_) (fun hx => ?_)
  · replace h := zwp_t h hx
    refine g_iconst (pc' := 28) (v := (0 : Int32)) hc rfl zki_0 rfl ?_
    replace h := zws h
    exact h
  · replace h := zwp_f h hx
    refine g_aload_n (pc' := 19)  hc rfl rfl rfl rfl ?_
    refine g_aload_n (pc' := 20)  hc rfl rfl rfl rfl ?_
    refine g_aload_n (pc' := 21)  hc rfl rfl rfl rfl ?_
    refine z_virt (as := [.ref 1, .ref 7]) (a := 3) (r := []) hc rfl rfl rfl rfl sh_3 rfl zco_31 rfl rfl rfl ?_
    refine ok_X4_readTable_3_1_7 (zdp hd rfl) (zwp_mono (zwp_bind h) ?_)
    rintro ⟨r118, o112, o113, o114, o115, o116, o117⟩ h
    refine z_po (pc' := 24) (st' := [.int r118]) (v := (some (.int r118))) (L' := [(1, some 2, fun _ => o13), (1, some 3, fun _ => o117), (1, some 4, fun _ => o114), (1, some 5, fun _ => o115), (1, some 6, fun _ => o116), (3, some 1, fun _ => (I 3 1)), (4, some 1, fun _ => (I 4 1)), (4, some 2, fun _ => (I 4 2)), (4, some 3, fun _ => (I 4 3)), (4, some 4, fun _ => (I 4 4)), (4, some 5, fun _ => (I 4 5)), (5, none, (I 5)), (7, some 0, fun _ => o113), (7, some 1, fun _ => o112), (7, some 3, fun _ => o3), (7, some 7, fun _ => o8), (7, some 9, fun _ => o7), (7, some 11, fun _ => o2), (7, some 12, fun _ => o1), (8, none, (I 8)), (9, none, (I 9)), (10, none, (I 10)), (11, none, (I 11)), (12, none, (I 12)), (13, some 2, fun _ => o4), (15, none, (I 15)), (16, some 2, fun _ => o6), (18, none, (I 18))]) (K' := [(7, some 2, fun _ => o9)]) zco_31 rfl rfl rfl rfl rfl rfl rfl rfl ?_
    refine g_goto hc rfl ?_
    replace h := zws h
    exact h
set_option maxRecDepth 4000 in
theorem ok_X8_begin_31_7 {p q : Nat} {I : pI} {J : pJ} {Q : pQ} {d : Nat} (hd : 3 ≤ d) (h : zwp (f_X8_begin (I 32) (I 31 3) (I 34) (I 31 0) (I 35) (I 31 1) (I 7 3) (I 8) (J 7 2) (I 33) (J 31 2)) (fun w => match w with | (o0, o1, o2, o3, o4, o5, o6, o7) => Q (.inl none) (zS p q I [(31, some 0, fun _ => o3), (31, some 1, fun _ => o5), (31, some 3, fun _ => o1), (32, none, o0), (33, none, o6), (34, none, o2), (35, none, o4)] J [(31, some 2, fun _ => o7)]))) : pm_call M cost zext d 67 [.ref 31, .ref 7] (pm_st 108 (shp p q) I J) Q := by
  obtain ⟨d, rfl⟩ := zd1 hd rfl
  have hc := pm_call_m (M := M) (cost := cost) zext_m d
  refine z_in (L := [(31, some 0, fun _ => (I 31 0)), (31, some 1, fun _ => (I 31 1)), (31, some 3, fun _ => (I 31 3)), (32, none, (I 32)), (33, none, (I 33)), (34, none, (I 34)), (35, none, (I 35))]) (K := [(31, some 2, fun _ => (J 31 2))]) (ls := [some (.ref 31), some (.ref 7)]) zmt_67 zco_67 rfl rfl (zid_s (zid_s (zid_s (zid_a (zid_a (zid_a (zid_a zid_n))))))) (zid_s zid_n) ?_
  delta f_X8_begin at h
  refine g_aload_n (pc' := 1)  hc rfl rfl rfl rfl ?_
  refine g_iconst (pc' := 2) (v := (0 : Int32)) hc rfl zki_0 rfl ?_
  refine z_putI (pc' := 5) (L' := [(31, some 0, fun _ => (0 : Int32)), (31, some 1, fun _ => (I 31 1)), (31, some 3, fun _ => (I 31 3)), (32, none, (I 32)), (33, none, (I 33)), (34, none, (I 34)), (35, none, (I 35))]) hc rfl rfl rfl sh_31 rfl zft_8_0 rfl (fun h => Bool.noConfusion h) rfl rfl rfl ?_
  refine g_aload_n (pc' := 6)  hc rfl rfl rfl rfl ?_
  refine g_iconst (pc' := 7) (v := (0 : Int32)) hc rfl zki_0 rfl ?_
  refine z_putI (pc' := 10) (L' := [(31, some 0, fun _ => (0 : Int32)), (31, some 1, fun _ => (0 : Int32)), (31, some 3, fun _ => (I 31 3)), (32, none, (I 32)), (33, none, (I 33)), (34, none, (I 34)), (35, none, (I 35))]) hc rfl rfl rfl sh_31 rfl zft_8_1 rfl (fun h => Bool.noConfusion h) rfl rfl rfl ?_
  refine g_aload_n (pc' := 11)  hc rfl rfl rfl rfl ?_
  refine g_aload_n (pc' := 12)  hc rfl rfl rfl rfl ?_
  refine z_getJ (pc' := 15) (v := (J 7 2)) hc rfl rfl rfl sh_7 rfl rfl rfl ?_
  refine z_putJ (pc' := 18) (K' := [(31, some 2, fun _ => (J 7 2))]) hc rfl rfl rfl sh_31 rfl zft_8_2 (fun h => Bool.noConfusion h) rfl rfl rfl ?_
  refine g_aload_n (pc' := 19)  hc rfl rfl rfl rfl ?_
  refine g_aload_n (pc' := 20)  hc rfl rfl rfl rfl ?_
  refine z_getI (pc' := 23) (v := (I 7 3)) hc rfl rfl rfl sh_7 rfl rfl rfl ?_
  refine z_putI (pc' := 26) (L' := [(31, some 0, fun _ => (0 : Int32)), (31, some 1, fun _ => (0 : Int32)), (31, some 3, fun _ => (I 7 3)), (32, none, (I 32)), (33, none, (I 33)), (34, none, (I 34)), (35, none, (I 35))]) hc rfl rfl rfl sh_31 rfl zft_8_3 rfl (fun h => Bool.noConfusion h) rfl rfl rfl ?_
  refine g_aload_n (pc' := 27)  hc rfl rfl rfl rfl ?_
  refine z_getR (pc' := 30)  hc rfl rfl rfl sh_7 rfl rfl ?_
  refine g_iconst (pc' := 31) (v := (0 : Int32)) hc rfl zki_0 rfl ?_
  refine g_aload_n (pc' := 32)  hc rfl rfl rfl rfl ?_
  refine z_getR (pc' := 35)  hc rfl rfl rfl sh_31 rfl rfl ?_
  refine g_iconst (pc' := 36) (v := (0 : Int32)) hc rfl zki_0 rfl ?_
  refine g_bipush (pc' := 38) (v := (8 : Int32)) hc rfl zkb_8 rfl ?_
  refine z_acpy (pc' := 41) (f := (I 8)) (g := (I 32)) (L' := [(31, some 0, fun _ => (0 : Int32)), (31, some 1, fun _ => (0 : Int32)), (31, some 3, fun _ => (I 7 3)), (32, none, (va_cpy ((I 8)) ((I 32)) 0 0 8)), (33, none, (I 33)), (34, none, (I 34)), (35, none, (I 35))]) hc rfl rfl (zdq hd rfl) rfl sh_8 rfl sh_32 (by decide) rfl rfl rfl rfl rfl rfl ?_
  refine g_aload_n (pc' := 42)  hc rfl rfl rfl rfl ?_
  refine z_getR (pc' := 45)  hc rfl rfl rfl sh_31 rfl rfl ?_
  refine g_iconst (pc' := 46) (v := (0 : Int32)) hc rfl zki_0 rfl ?_
  refine z_stat (as := [.ref 33, .int (0 : Int32)]) (r := []) hc rfl rfl rfl rfl zco_268 rfl rfl rfl ?_
  refine ok_J7_fill_53178_33 (zdp hd rfl) (zwp_mono (zwp_bind h) ?_)
  rintro o1 h
  refine z_po (pc' := 49) (st' := []) (v := none) (L' := [(31, some 0, fun _ => (0 : Int32)), (31, some 1, fun _ => (0 : Int32)), (31, some 3, fun _ => (I 7 3)), (32, none, (va_cpy ((I 8)) ((I 32)) 0 0 8)), (33, none, o1), (34, none, (I 34)), (35, none, (I 35))]) (K' := [(31, some 2, fun _ => (J 7 2))]) zco_268 rfl rfl rfl rfl rfl rfl rfl rfl ?_
  refine g_aload_n (pc' := 50)  hc rfl rfl rfl rfl ?_
  refine z_getR (pc' := 53)  hc rfl rfl rfl sh_31 rfl rfl ?_
  refine g_iconst (pc' := 54) (v := (0 : Int32)) hc rfl zki_0 rfl ?_
  refine z_stat (as := [.ref 34, .int (0 : Int32)]) (r := []) hc rfl rfl rfl rfl zco_268 rfl rfl rfl ?_
  refine ok_J7_fill_53178_34 (zdp hd rfl) (zwp_mono (zwp_bind h) ?_)
  rintro o2 h
  refine z_po (pc' := 57) (st' := []) (v := none) (L' := [(31, some 0, fun _ => (0 : Int32)), (31, some 1, fun _ => (0 : Int32)), (31, some 3, fun _ => (I 7 3)), (32, none, (va_cpy ((I 8)) ((I 32)) 0 0 8)), (33, none, o1), (34, none, o2), (35, none, (I 35))]) (K' := [(31, some 2, fun _ => (J 7 2))]) zco_268 rfl rfl rfl rfl rfl rfl rfl rfl ?_
  refine g_aload_n (pc' := 58)  hc rfl rfl rfl rfl ?_
  refine z_getR (pc' := 61)  hc rfl rfl rfl sh_31 rfl rfl ?_
  refine g_iconst (pc' := 62) (v := (0 : Int32)) hc rfl zki_0 rfl ?_
  refine z_stat (as := [.ref 35, .int (0 : Int32)]) (r := []) hc rfl rfl rfl rfl zco_268 rfl rfl rfl ?_
  refine ok_J7_fill_53178_35 (zdp hd rfl) (zwp_mono (zwp_bind h) ?_)
  rintro o3 h
  refine z_po (pc' := 65) (st' := []) (v := none) (L' := [(31, some 0, fun _ => (0 : Int32)), (31, some 1, fun _ => (0 : Int32)), (31, some 3, fun _ => (I 7 3)), (32, none, (va_cpy ((I 8)) ((I 32)) 0 0 8)), (33, none, o1), (34, none, o2), (35, none, o3)]) (K' := [(31, some 2, fun _ => (J 7 2))]) zco_268 rfl rfl rfl rfl rfl rfl rfl rfl ?_
  replace h := zws h
  exact g_return hc rfl rfl (fun _ => ⟨rfl, rfl⟩) h
set_option maxHeartbeats 20000000 in
set_option maxRecDepth 4000 in
theorem ok_X11_town_0_q {I : pI} {J : pJ} {a1 : Int32} {Q : pQ} {d : Nat} (hd : 13 ≤ d) (h : zwp (f_X11_town a1 (I 36 2) (I 36 3) (I 0 2) (I 0 8) (I 32) (I 31 3) (I 34) (I 31 0) (I 35) (I 31 1) (I 33) (J 31 2) (I 3 1) (I 4 4) (I 4 2) (I 4 3) (I 4 5) (I 5) (I 4 1) (I 6) (I 7 12) (I 7 11) (I 7 3) (I 15) (I 13 2) (I 7 1) (I 18) (I 16 2) (I 12) (I 7 9) (I 11) (I 7 7) (I 8) (I 9) (J 7 2) (I 10) (I 7 0) (I 2) (I 1 4) (I 1 5) (I 1 2) (I 1 6) (I 1 3) (I 1 1)) (fun w => match w with | (.inl r, sw, o0, o1, o2, o3, o4, o5, o6, o7, o8, o9, o10, o11, o12, o13, o14, o15, o16, o17, o18, o19, o20, o21, o22, o23, o24, o25, o26, o27, o28, o29, o30, o31, o32, o33, o34, o35, o36, o37, o38, o39, o40, o41, o42) => Q (.inl (some (.int r))) (zS (cond sw 7 19) (cond sw 19 7) I [(0, some 2, fun _ => o2), (0, some 8, fun _ => o3), (1, some 1, fun _ => o42), (1, some 2, fun _ => o39), (1, some 3, fun _ => o41), (1, some 4, fun _ => o37), (1, some 5, fun _ => o38), (1, some 6, fun _ => o40), (3, some 1, fun _ => o12), (4, some 1, fun _ => o18), (4, some 2, fun _ => o14), (4, some 3, fun _ => o15), (4, some 4, fun _ => o13), (4, some 5, fun _ => o16), (5, none, o17), (6, none, o19), (7, some 0, fun _ => o36), (7, some 1, fun _ => o25), (7, some 3, fun _ => o22), (7, some 7, fun _ => o31), (7, some 9, fun _ => o29), (7, some 11, fun _ => o21), (7, some 12, fun _ => o20), (8, none, o32), (9, none, o33), (10, none, o35), (11, none, o30), (12, none, o28), (13, some 2, fun _ => o24), (15, none, o23), (16, some 2, fun _ => o27), (18, none, o26), (31, some 0, fun _ => o7), (31, some 1, fun _ => o9), (31, some 3, fun _ => o5), (32, none, o4), (33, none, o10), (34, none, o6), (35, none, o8), (36, some 2, fun _ => o0), (36, some 3, fun _ => o1)] J [(7, some 2, fun _ => o34), (31, some 2, fun _ => o11)]) | (.inr E, sw, o0, o1, o2, o3, o4, o5, o6, o7, o8, o9, o10, o11, o12, o13, o14, o15, o16, o17, o18, o19, o20, o21, o22, o23, o24, o25, o26, o27, o28, o29, o30, o31, o32, o33, o34, o35, o36, o37, o38, o39, o40, o41, o42) => Q (.inr E) (zS (cond sw 7 19) (cond sw 19 7) I [(0, some 2, fun _ => o2), (0, some 8, fun _ => o3), (1, some 1, fun _ => o42), (1, some 2, fun _ => o39), (1, some 3, fun _ => o41), (1, some 4, fun _ => o37), (1, some 5, fun _ => o38), (1, some 6, fun _ => o40), (3, some 1, fun _ => o12), (4, some 1, fun _ => o18), (4, some 2, fun _ => o14), (4, some 3, fun _ => o15), (4, some 4, fun _ => o13), (4, some 5, fun _ => o16), (5, none, o17), (6, none, o19), (7, some 0, fun _ => o36), (7, some 1, fun _ => o25), (7, some 3, fun _ => o22), (7, some 7, fun _ => o31), (7, some 9, fun _ => o29), (7, some 11, fun _ => o21), (7, some 12, fun _ => o20), (8, none, o32), (9, none, o33), (10, none, o35), (11, none, o30), (12, none, o28), (13, some 2, fun _ => o24), (15, none, o23), (16, some 2, fun _ => o27), (18, none, o26), (31, some 0, fun _ => o7), (31, some 1, fun _ => o9), (31, some 3, fun _ => o5), (32, none, o4), (33, none, o10), (34, none, o6), (35, none, o8), (36, some 2, fun _ => o0), (36, some 3, fun _ => o1)] J [(7, some 2, fun _ => o34), (31, some 2, fun _ => o11)]))) : pm_call M cost zext d 98 [.ref 0, .int a1] (pm_st 108 (shp 19 7) I J) Q := by
  obtain ⟨d, rfl⟩ := zd1 hd rfl
  have hc := pm_call_m (M := M) (cost := cost) zext_m d
  refine z_in (L := [(0, some 2, fun _ => (I 0 2)), (0, some 8, fun _ => (I 0 8)), (1, some 1, fun _ => (I 1 1)), (1, some 2, fun _ => (I 1 2)), (1, some 3, fun _ => (I 1 3)), (1, some 4, fun _ => (I 1 4)), (1, some 5, fun _ => (I 1 5)), (1, some 6, fun _ => (I 1 6)), (3, some 1, fun _ => (I 3 1)), (4, some 1, fun _ => (I 4 1)), (4, some 2, fun _ => (I 4 2)), (4, some 3, fun _ => (I 4 3)), (4, some 4, fun _ => (I 4 4)), (4, some 5, fun _ => (I 4 5)), (5, none, (I 5)), (6, none, (I 6)), (7, some 0, fun _ => (I 7 0)), (7, some 1, fun _ => (I 7 1)), (7, some 3, fun _ => (I 7 3)), (7, some 7, fun _ => (I 7 7)), (7, some 9, fun _ => (I 7 9)), (7, some 11, fun _ => (I 7 11)), (7, some 12, fun _ => (I 7 12)), (8, none, (I 8)), (9, none, (I 9)), (10, none, (I 10)), (11, none, (I 11)), (12, none, (I 12)), (13, some 2, fun _ => (I 13 2)), (15, none, (I 15)), (16, some 2, fun _ => (I 16 2)), (18, none, (I 18)), (31, some 0, fun _ => (I 31 0)), (31, some 1, fun _ => (I 31 1)), (31, some 3, fun _ => (I 31 3)), (32, none, (I 32)), (33, none, (I 33)), (34, none, (I 34)), (35, none, (I 35)), (36, some 2, fun _ => (I 36 2)), (36, some 3, fun _ => (I 36 3))]) (K := [(7, some 2, fun _ => (J 7 2)), (31, some 2, fun _ => (J 31 2))]) (ls := [some (.ref 0), some (.int a1), none, none]) zmt_98 zco_98 rfl rfl (zid_s (zid_s (zid_s (zid_s (zid_s (zid_s (zid_s (zid_s (zid_s (zid_s (zid_s (zid_s (zid_s (zid_s (zid_a (zid_a (zid_s (zid_s (zid_s (zid_s (zid_s (zid_s (zid_s (zid_a (zid_a (zid_a (zid_a (zid_a (zid_s (zid_a (zid_s (zid_a (zid_s (zid_s (zid_s (zid_a (zid_a (zid_a (zid_a (zid_s (zid_s zid_n))))))))))))))))))))))))))))))))))))))))) (zid_s (zid_s zid_n)) ?_
  delta f_X11_town at h
  refine g_iload_n (pc' := 1)  hc rfl rfl rfl ?_
  refine g_if_lt (pc' := 4) hc rfl rfl (fun hx => ?_) (fun hx => ?_)
  · replace h := zwp_t h hx
    replace h := zws h
    exact z_throw hc rfl rfl (zdq hd rfl) rfl rfl rfl h
  · replace h := zwp_f h hx
    refine g_iload_n (pc' := 5)  hc rfl rfl rfl ?_
    refine g_aload_n (pc' := 6)  hc rfl rfl rfl rfl ?_
    refine z_getR (pc' := 9)  hc rfl rfl rfl sh_0 rfl rfl ?_
    refine z_getI (pc' := 12) (v := (I 1 1)) hc rfl rfl rfl sh_1 rfl rfl rfl ?_
    refine g_icmp_le (pc' := 15) hc rfl rfl (fun hx => ?_) (fun hx => ?_)
    · replace h := zwp_t h hx
      refine g_aload_n (pc' := 26)  hc rfl rfl rfl rfl ?_
      refine z_getR (pc' := 29)  hc rfl rfl rfl sh_0 rfl rfl ?_
      refine g_aload_n (pc' := 30)  hc rfl rfl rfl rfl ?_
      refine z_getR (pc' := 33)  hc rfl rfl rfl sh_0 rfl rfl ?_
      refine g_iload_n (pc' := 34)  hc rfl rfl rfl ?_
      refine g_aload_n (pc' := 35)  hc rfl rfl rfl rfl ?_
      refine z_getR (pc' := 38)  hc rfl rfl rfl sh_0 rfl rfl ?_
      refine z_virt (as := [.ref 1, .int a1, .ref 7]) (a := 3) (r := []) hc rfl rfl rfl rfl sh_3 rfl zco_30 rfl rfl rfl ?_
      refine ok_X4_read_3_1_7 (zdp hd rfl) (zwp_mono (zwp_bind h) ?_)
      rintro ⟨r30, o1, o2, o3, o4, o5, o6, o7, o8, o9, o10, o11, o12, o13, o14, o15, o16, o17, o18, o19, o20, o21, o22, o23, o24, o25, o26, o27, o28, o29⟩ h
      refine z_po (pc' := 41) (st' := [.int r30]) (v := (some (.int r30))) (L' := [(0, some 2, fun _ => (I 0 2)), (0, some 8, fun _ => (I 0 8)), (1, some 1, fun _ => (I 1 1)), (1, some 2, fun _ => o27), (1, some 3, fun _ => o29), (1, some 4, fun _ => o25), (1, some 5, fun _ => o26), (1, some 6, fun _ => o28), (3, some 1, fun _ => o18), (4, some 1, fun _ => o24), (4, some 2, fun _ => o20), (4, some 3, fun _ => o21), (4, some 4, fun _ => o19), (4, some 5, fun _ => o22), (5, none, o23), (6, none, (I 6)), (7, some 0, fun _ => o17), (7, some 1, fun _ => o6), (7, some 3, fun _ => o3), (7, some 7, fun _ => o12), (7, some 9, fun _ => o10), (7, some 11, fun _ => o2), (7, some 12, fun _ => o1), (8, none, o13), (9, none, o14), (10, none, o16), (11, none, o11), (12, none, o9), (13, some 2, fun _ => o5), (15, none, o4), (16, some 2, fun _ => o8), (18, none, o7), (31, some 0, fun _ => (I 31 0)), (31, some 1, fun _ => (I 31 1)), (31, some 3, fun _ => (I 31 3)), (32, none, (I 32)), (33, none, (I 33)), (34, none, (I 34)), (35, none, (I 35)), (36, some 2, fun _ => (I 36 2)), (36, some 3, fun _ => (I 36 3))]) (K' := [(7, some 2, fun _ => o15), (31, some 2, fun _ => (J 31 2))]) zco_30 rfl rfl rfl rfl rfl rfl rfl rfl ?_
      refine g_istore_n (pc' := 42) (ls1 := [some (.ref 0), some (.int a1), some (.int r30), none]) hc rfl (zlt rfl) rfl rfl ?_
      refine g_aload_n (pc' := 43)  hc rfl rfl rfl rfl ?_
      refine z_getR (pc' := 46)  hc rfl rfl rfl sh_0 rfl rfl ?_
      refine g_iconst (pc' := 47) (v := (0 : Int32)) hc rfl zki_0 rfl ?_
      refine z_putI (pc' := 50) (L' := [(0, some 2, fun _ => (I 0 2)), (0, some 8, fun _ => (I 0 8)), (1, some 1, fun _ => (0 : Int32)), (1, some 2, fun _ => o27), (1, some 3, fun _ => o29), (1, some 4, fun _ => o25), (1, some 5, fun _ => o26), (1, some 6, fun _ => o28), (3, some 1, fun _ => o18), (4, some 1, fun _ => o24), (4, some 2, fun _ => o20), (4, some 3, fun _ => o21), (4, some 4, fun _ => o19), (4, some 5, fun _ => o22), (5, none, o23), (6, none, (I 6)), (7, some 0, fun _ => o17), (7, some 1, fun _ => o6), (7, some 3, fun _ => o3), (7, some 7, fun _ => o12), (7, some 9, fun _ => o10), (7, some 11, fun _ => o2), (7, some 12, fun _ => o1), (8, none, o13), (9, none, o14), (10, none, o16), (11, none, o11), (12, none, o9), (13, some 2, fun _ => o5), (15, none, o4), (16, some 2, fun _ => o8), (18, none, o7), (31, some 0, fun _ => (I 31 0)), (31, some 1, fun _ => (I 31 1)), (31, some 3, fun _ => (I 31 3)), (32, none, (I 32)), (33, none, (I 33)), (34, none, (I 34)), (35, none, (I 35)), (36, some 2, fun _ => (I 36 2)), (36, some 3, fun _ => (I 36 3))]) hc rfl rfl rfl sh_1 rfl zft_9_1 rfl (fun h => Bool.noConfusion h) rfl rfl rfl ?_
      refine g_iload_n (pc' := 51)  hc rfl rfl rfl ?_
      refine g_if_eq (pc' := 54) hc rfl rfl (fun hx => ?_) (fun hx => ?_)
      · replace h := zwp_t h hx
        refine g_aload_n (pc' := 78)  hc rfl rfl rfl rfl ?_
        refine g_iconst (pc' := 79) (v := (-1 : Int32)) hc rfl zki_m1 rfl ?_
        refine z_putI (pc' := 82) (L' := [(0, some 2, fun _ => (-1 : Int32)), (0, some 8, fun _ => (I 0 8)), (1, some 1, fun _ => (0 : Int32)), (1, some 2, fun _ => o27), (1, some 3, fun _ => o29), (1, some 4, fun _ => o25), (1, some 5, fun _ => o26), (1, some 6, fun _ => o28), (3, some 1, fun _ => o18), (4, some 1, fun _ => o24), (4, some 2, fun _ => o20), (4, some 3, fun _ => o21), (4, some 4, fun _ => o19), (4, some 5, fun _ => o22), (5, none, o23), (6, none, (I 6)), (7, some 0, fun _ => o17), (7, some 1, fun _ => o6), (7, some 3, fun _ => o3), (7, some 7, fun _ => o12), (7, some 9, fun _ => o10), (7, some 11, fun _ => o2), (7, some 12, fun _ => o1), (8, none, o13), (9, none, o14), (10, none, o16), (11, none, o11), (12, none, o9), (13, some 2, fun _ => o5), (15, none, o4), (16, some 2, fun _ => o8), (18, none, o7), (31, some 0, fun _ => (I 31 0)), (31, some 1, fun _ => (I 31 1)), (31, some 3, fun _ => (I 31 3)), (32, none, (I 32)), (33, none, (I 33)), (34, none, (I 34)), (35, none, (I 35)), (36, some 2, fun _ => (I 36 2)), (36, some 3, fun _ => (I 36 3))]) hc rfl rfl rfl sh_0 rfl zft_11_2 rfl (fun h => Bool.noConfusion h) rfl rfl rfl ?_
        refine g_aload_n (pc' := 83)  hc rfl rfl rfl rfl ?_
        refine z_getR (pc' := 86)  hc rfl rfl rfl sh_0 rfl rfl ?_
        refine g_astore_n (pc' := 87) (ls1 := [some (.ref 0), some (.int a1), some (.int r30), some (.ref 19)]) hc rfl rfl (zlt rfl) rfl rfl ?_
        refine g_aload_n (pc' := 88)  hc rfl rfl rfl rfl ?_
        refine g_aload_n (pc' := 89)  hc rfl rfl rfl rfl ?_
        refine z_getR (pc' := 92)  hc rfl rfl rfl sh_0 rfl rfl ?_
        refine z_putP (pc' := 95) (b := 7) hc rfl rfl rfl ?_
        refine g_aload_n (pc' := 96)  hc rfl rfl rfl rfl ?_
        refine g_aload_n (pc' := 97)  hc rfl rfl rfl rfl ?_
        refine z_putQ (pc' := 100) (b := 19) hc rfl rfl rfl ?_
        refine g_aload_n (pc' := 101)  hc rfl rfl rfl rfl ?_
        refine z_getR (pc' := 104)  hc rfl rfl rfl sh_0 rfl rfl ?_
        refine g_aload_n (pc' := 105)  hc rfl rfl rfl rfl ?_
        refine z_getR (pc' := 108)  hc rfl rfl rfl sh_0 rfl rfl ?_
        refine z_virt (as := [.ref 7]) (a := 31) (r := []) hc rfl rfl rfl rfl sh_31 rfl zco_67 rfl rfl rfl ?_
        refine ok_X8_begin_31_7 (zdp hd rfl) (zwp_mono (zwp_bind h) ?_)
        rintro ⟨o31, o32, o33, o34, o35, o36, o37, o38⟩ h
        refine z_po (pc' := 111) (st' := []) (v := none) (L' := [(0, some 2, fun _ => (-1 : Int32)), (0, some 8, fun _ => (I 0 8)), (1, some 1, fun _ => (0 : Int32)), (1, some 2, fun _ => o27), (1, some 3, fun _ => o29), (1, some 4, fun _ => o25), (1, some 5, fun _ => o26), (1, some 6, fun _ => o28), (3, some 1, fun _ => o18), (4, some 1, fun _ => o24), (4, some 2, fun _ => o20), (4, some 3, fun _ => o21), (4, some 4, fun _ => o19), (4, some 5, fun _ => o22), (5, none, o23), (6, none, (I 6)), (7, some 0, fun _ => o17), (7, some 1, fun _ => o6), (7, some 3, fun _ => o3), (7, some 7, fun _ => o12), (7, some 9, fun _ => o10), (7, some 11, fun _ => o2), (7, some 12, fun _ => o1), (8, none, o13), (9, none, o14), (10, none, o16), (11, none, o11), (12, none, o9), (13, some 2, fun _ => o5), (15, none, o4), (16, some 2, fun _ => o8), (18, none, o7), (31, some 0, fun _ => o34), (31, some 1, fun _ => o36), (31, some 3, fun _ => o32), (32, none, o31), (33, none, o37), (34, none, o33), (35, none, o35), (36, some 2, fun _ => (I 36 2)), (36, some 3, fun _ => (I 36 3))]) (K' := [(7, some 2, fun _ => o15), (31, some 2, fun _ => o38)]) zco_67 rfl rfl rfl rfl rfl rfl rfl rfl ?_
        refine g_aload_n (pc' := 112)  hc rfl rfl rfl rfl ?_
        refine z_getR (pc' := 115)  hc rfl rfl rfl sh_0 rfl rfl ?_
        refine z_virt (as := []) (a := 36) (r := []) hc rfl rfl rfl rfl sh_36 rfl zco_1 rfl rfl rfl ?_
        refine ok_X0_clearActs_36 (zdp hd rfl) (zwp_mono (zwp_bind h) ?_)
        rintro o39 h
        refine z_po (pc' := 118) (st' := []) (v := none) (L' := [(0, some 2, fun _ => (-1 : Int32)), (0, some 8, fun _ => (I 0 8)), (1, some 1, fun _ => (0 : Int32)), (1, some 2, fun _ => o27), (1, some 3, fun _ => o29), (1, some 4, fun _ => o25), (1, some 5, fun _ => o26), (1, some 6, fun _ => o28), (3, some 1, fun _ => o18), (4, some 1, fun _ => o24), (4, some 2, fun _ => o20), (4, some 3, fun _ => o21), (4, some 4, fun _ => o19), (4, some 5, fun _ => o22), (5, none, o23), (6, none, (I 6)), (7, some 0, fun _ => o17), (7, some 1, fun _ => o6), (7, some 3, fun _ => o3), (7, some 7, fun _ => o12), (7, some 9, fun _ => o10), (7, some 11, fun _ => o2), (7, some 12, fun _ => o1), (8, none, o13), (9, none, o14), (10, none, o16), (11, none, o11), (12, none, o9), (13, some 2, fun _ => o5), (15, none, o4), (16, some 2, fun _ => o8), (18, none, o7), (31, some 0, fun _ => o34), (31, some 1, fun _ => o36), (31, some 3, fun _ => o32), (32, none, o31), (33, none, o37), (34, none, o33), (35, none, o35), (36, some 2, fun _ => o39), (36, some 3, fun _ => (I 36 3))]) (K' := [(7, some 2, fun _ => o15), (31, some 2, fun _ => o38)]) zco_1 rfl rfl rfl rfl rfl rfl rfl rfl ?_
        refine g_aload_n (pc' := 119)  hc rfl rfl rfl rfl ?_
        refine z_getR (pc' := 122)  hc rfl rfl rfl sh_0 rfl rfl ?_
        refine z_virt (as := []) (a := 36) (r := []) hc rfl rfl rfl rfl sh_36 rfl zco_2 rfl rfl rfl ?_
        refine ok_X0_clearNotes_36 (zdp hd rfl) (zwp_mono (zwp_bind h) ?_)
        rintro o40 h
        refine z_po (pc' := 125) (st' := []) (v := none) (L' := [(0, some 2, fun _ => (-1 : Int32)), (0, some 8, fun _ => (I 0 8)), (1, some 1, fun _ => (0 : Int32)), (1, some 2, fun _ => o27), (1, some 3, fun _ => o29), (1, some 4, fun _ => o25), (1, some 5, fun _ => o26), (1, some 6, fun _ => o28), (3, some 1, fun _ => o18), (4, some 1, fun _ => o24), (4, some 2, fun _ => o20), (4, some 3, fun _ => o21), (4, some 4, fun _ => o19), (4, some 5, fun _ => o22), (5, none, o23), (6, none, (I 6)), (7, some 0, fun _ => o17), (7, some 1, fun _ => o6), (7, some 3, fun _ => o3), (7, some 7, fun _ => o12), (7, some 9, fun _ => o10), (7, some 11, fun _ => o2), (7, some 12, fun _ => o1), (8, none, o13), (9, none, o14), (10, none, o16), (11, none, o11), (12, none, o9), (13, some 2, fun _ => o5), (15, none, o4), (16, some 2, fun _ => o8), (18, none, o7), (31, some 0, fun _ => o34), (31, some 1, fun _ => o36), (31, some 3, fun _ => o32), (32, none, o31), (33, none, o37), (34, none, o33), (35, none, o35), (36, some 2, fun _ => o39), (36, some 3, fun _ => o40)]) (K' := [(7, some 2, fun _ => o15), (31, some 2, fun _ => o38)]) zco_2 rfl rfl rfl rfl rfl rfl rfl rfl ?_
        refine g_aload_n (pc' := 126)  hc rfl rfl rfl rfl ?_
        refine g_iconst (pc' := 127) (v := (0 : Int32)) hc rfl zki_0 rfl ?_
        refine z_putI (pc' := 130) (L' := [(0, some 2, fun _ => (-1 : Int32)), (0, some 8, fun _ => (0 : Int32)), (1, some 1, fun _ => (0 : Int32)), (1, some 2, fun _ => o27), (1, some 3, fun _ => o29), (1, some 4, fun _ => o25), (1, some 5, fun _ => o26), (1, some 6, fun _ => o28), (3, some 1, fun _ => o18), (4, some 1, fun _ => o24), (4, some 2, fun _ => o20), (4, some 3, fun _ => o21), (4, some 4, fun _ => o19), (4, some 5, fun _ => o22), (5, none, o23), (6, none, (I 6)), (7, some 0, fun _ => o17), (7, some 1, fun _ => o6), (7, some 3, fun _ => o3), (7, some 7, fun _ => o12), (7, some 9, fun _ => o10), (7, some 11, fun _ => o2), (7, some 12, fun _ => o1), (8, none, o13), (9, none, o14), (10, none, o16), (11, none, o11), (12, none, o9), (13, some 2, fun _ => o5), (15, none, o4), (16, some 2, fun _ => o8), (18, none, o7), (31, some 0, fun _ => o34), (31, some 1, fun _ => o36), (31, some 3, fun _ => o32), (32, none, o31), (33, none, o37), (34, none, o33), (35, none, o35), (36, some 2, fun _ => o39), (36, some 3, fun _ => o40)]) hc rfl rfl rfl sh_0 rfl zft_11_8 rfl (fun h => Bool.noConfusion h) rfl rfl rfl ?_
        refine g_iconst (pc' := 131) (v := (0 : Int32)) hc rfl zki_0 rfl ?_
        replace h := zws h
        exact g_ireturn hc rfl rfl rfl (fun _ => ⟨rfl, rfl⟩) h
      · replace h := zwp_f h hx
        refine g_aload_n (pc' := 55)  hc rfl rfl rfl rfl ?_
        refine g_aload_n (pc' := 56)  hc rfl rfl rfl rfl ?_
        refine z_getR (pc' := 59)  hc rfl rfl rfl sh_0 rfl rfl ?_
        refine z_getI (pc' := 62) (v := o29) hc rfl rfl rfl sh_1 rfl rfl rfl ?_
        refine z_putI (pc' := 65) (L' := [(0, some 2, fun _ => o29), (0, some 8, fun _ => (I 0 8)), (1, some 1, fun _ => (0 : Int32)), (1, some 2, fun _ => o27), (1, some 3, fun _ => o29), (1, some 4, fun _ => o25), (1, some 5, fun _ => o26), (1, some 6, fun _ => o28), (3, some 1, fun _ => o18), (4, some 1, fun _ => o24), (4, some 2, fun _ => o20), (4, some 3, fun _ => o21), (4, some 4, fun _ => o19), (4, some 5, fun _ => o22), (5, none, o23), (6, none, (I 6)), (7, some 0, fun _ => o17), (7, some 1, fun _ => o6), (7, some 3, fun _ => o3), (7, some 7, fun _ => o12), (7, some 9, fun _ => o10), (7, some 11, fun _ => o2), (7, some 12, fun _ => o1), (8, none, o13), (9, none, o14), (10, none, o16), (11, none, o11), (12, none, o9), (13, some 2, fun _ => o5), (15, none, o4), (16, some 2, fun _ => o8), (18, none, o7), (31, some 0, fun _ => (I 31 0)), (31, some 1, fun _ => (I 31 1)), (31, some 3, fun _ => (I 31 3)), (32, none, (I 32)), (33, none, (I 33)), (34, none, (I 34)), (35, none, (I 35)), (36, some 2, fun _ => (I 36 2)), (36, some 3, fun _ => (I 36 3))]) hc rfl rfl rfl sh_0 rfl zft_11_2 rfl (fun h => Bool.noConfusion h) rfl rfl rfl ?_
        refine g_aload_n (pc' := 66)  hc rfl rfl rfl rfl ?_
        refine z_getR (pc' := 69)  hc rfl rfl rfl sh_0 rfl rfl ?_
        refine g_iconst (pc' := 70) (v := (0 : Int32)) hc rfl zki_0 rfl ?_
        refine g_dup2 (pc' := 71)  hc rfl rfl rfl rfl ?_
        refine z_iaload (pc' := 72) (v := (((I 6)) 0)) hc rfl rfl sh_6 (by decide) rfl rfl ?_
        refine g_iconst (pc' := 73) (v := (1 : Int32)) hc rfl zki_1 rfl ?_
        refine g_iadd (pc' := 74)  hc rfl rfl ?_
        refine z_iastore (pc' := 75) (g := (I 6)) (L' := [(0, some 2, fun _ => o29), (0, some 8, fun _ => (I 0 8)), (1, some 1, fun _ => (0 : Int32)), (1, some 2, fun _ => o27), (1, some 3, fun _ => o29), (1, some 4, fun _ => o25), (1, some 5, fun _ => o26), (1, some 6, fun _ => o28), (3, some 1, fun _ => o18), (4, some 1, fun _ => o24), (4, some 2, fun _ => o20), (4, some 3, fun _ => o21), (4, some 4, fun _ => o19), (4, some 5, fun _ => o22), (5, none, o23), (6, none, (upd ((I 6)) 0 ((((I 6)) 0) + (1 : Int32)))), (7, some 0, fun _ => o17), (7, some 1, fun _ => o6), (7, some 3, fun _ => o3), (7, some 7, fun _ => o12), (7, some 9, fun _ => o10), (7, some 11, fun _ => o2), (7, some 12, fun _ => o1), (8, none, o13), (9, none, o14), (10, none, o16), (11, none, o11), (12, none, o9), (13, some 2, fun _ => o5), (15, none, o4), (16, some 2, fun _ => o8), (18, none, o7), (31, some 0, fun _ => (I 31 0)), (31, some 1, fun _ => (I 31 1)), (31, some 3, fun _ => (I 31 3)), (32, none, (I 32)), (33, none, (I 33)), (34, none, (I 34)), (35, none, (I 35)), (36, some 2, fun _ => (I 36 2)), (36, some 3, fun _ => (I 36 3))]) hc rfl rfl sh_6 (by decide) rfl rfl rfl rfl ?_
        refine g_iload_n (pc' := 76)  hc rfl rfl rfl ?_
        replace h := zws h
        exact g_ireturn hc rfl rfl rfl (fun _ => ⟨rfl, rfl⟩) h
    · replace h := zwp_f h hx
      replace h := zws h
      exact z_throw hc rfl rfl (zdq hd rfl) rfl rfl rfl h
set_option maxHeartbeats 20000000 in
set_option maxRecDepth 4000 in
theorem ok_L_town_0_107_q {I : pI} {J : pJ} {a1 : Int32} {Q : pQ} {d : Nat} (hd : 14 ≤ d) (h : zwp (f_L_town a1 1 (J 107) (I 36 2) (I 36 3) (I 0 2) (I 0 8) (I 32) (I 31 3) (I 34) (I 31 0) (I 35) (I 31 1) (I 33) (J 31 2) (I 3 1) (I 4 4) (I 4 2) (I 4 3) (I 4 5) (I 5) (I 4 1) (I 6) (I 7 12) (I 7 11) (I 7 3) (I 15) (I 13 2) (I 7 1) (I 18) (I 16 2) (I 12) (I 7 9) (I 11) (I 7 7) (I 8) (I 9) (J 7 2) (I 10) (I 7 0) (I 2) (I 1 4) (I 1 5) (I 1 2) (I 1 6) (I 1 3) (I 1 1)) (fun w => match w with | (r, sw, o0, o1, o2, o3, o4, o5, o6, o7, o8, o9, o10, o11, o12, o13, o14, o15, o16, o17, o18, o19, o20, o21, o22, o23, o24, o25, o26, o27, o28, o29, o30, o31, o32, o33, o34, o35, o36, o37, o38, o39, o40, o41, o42, o43) => Q (.inl (some (.int r))) (zS (cond sw 7 19) (cond sw 19 7) I [(0, some 2, fun _ => o3), (0, some 8, fun _ => o4), (1, some 1, fun _ => o43), (1, some 2, fun _ => o40), (1, some 3, fun _ => o42), (1, some 4, fun _ => o38), (1, some 5, fun _ => o39), (1, some 6, fun _ => o41), (3, some 1, fun _ => o13), (4, some 1, fun _ => o19), (4, some 2, fun _ => o15), (4, some 3, fun _ => o16), (4, some 4, fun _ => o14), (4, some 5, fun _ => o17), (5, none, o18), (6, none, o20), (7, some 0, fun _ => o37), (7, some 1, fun _ => o26), (7, some 3, fun _ => o23), (7, some 7, fun _ => o32), (7, some 9, fun _ => o30), (7, some 11, fun _ => o22), (7, some 12, fun _ => o21), (8, none, o33), (9, none, o34), (10, none, o36), (11, none, o31), (12, none, o29), (13, some 2, fun _ => o25), (15, none, o24), (16, some 2, fun _ => o28), (18, none, o27), (31, some 0, fun _ => o8), (31, some 1, fun _ => o10), (31, some 3, fun _ => o6), (32, none, o5), (33, none, o11), (34, none, o7), (35, none, o9), (36, some 2, fun _ => o1), (36, some 3, fun _ => o2)] J [(7, some 2, fun _ => o35), (31, some 2, fun _ => o12), (107, none, o0)]))) : pm_call M cost zext d 272 [.ref 0, .int a1, .ref 107] (pm_st 108 (shp 19 7) I J) Q := by
  obtain ⟨d, rfl⟩ := zd1 hd rfl
  have hc := pm_call_m (M := M) (cost := cost) zext_m d
  refine z_in (L := [(0, some 2, fun _ => (I 0 2)), (0, some 8, fun _ => (I 0 8)), (1, some 1, fun _ => (I 1 1)), (1, some 2, fun _ => (I 1 2)), (1, some 3, fun _ => (I 1 3)), (1, some 4, fun _ => (I 1 4)), (1, some 5, fun _ => (I 1 5)), (1, some 6, fun _ => (I 1 6)), (3, some 1, fun _ => (I 3 1)), (4, some 1, fun _ => (I 4 1)), (4, some 2, fun _ => (I 4 2)), (4, some 3, fun _ => (I 4 3)), (4, some 4, fun _ => (I 4 4)), (4, some 5, fun _ => (I 4 5)), (5, none, (I 5)), (6, none, (I 6)), (7, some 0, fun _ => (I 7 0)), (7, some 1, fun _ => (I 7 1)), (7, some 3, fun _ => (I 7 3)), (7, some 7, fun _ => (I 7 7)), (7, some 9, fun _ => (I 7 9)), (7, some 11, fun _ => (I 7 11)), (7, some 12, fun _ => (I 7 12)), (8, none, (I 8)), (9, none, (I 9)), (10, none, (I 10)), (11, none, (I 11)), (12, none, (I 12)), (13, some 2, fun _ => (I 13 2)), (15, none, (I 15)), (16, some 2, fun _ => (I 16 2)), (18, none, (I 18)), (31, some 0, fun _ => (I 31 0)), (31, some 1, fun _ => (I 31 1)), (31, some 3, fun _ => (I 31 3)), (32, none, (I 32)), (33, none, (I 33)), (34, none, (I 34)), (35, none, (I 35)), (36, some 2, fun _ => (I 36 2)), (36, some 3, fun _ => (I 36 3))]) (K := [(7, some 2, fun _ => (J 7 2)), (31, some 2, fun _ => (J 31 2)), (107, none, (J 107))]) (ls := [some (.ref 0), some (.int a1), some (.ref 107), none]) zmt_272 zco_272 rfl rfl (zid_s (zid_s (zid_s (zid_s (zid_s (zid_s (zid_s (zid_s (zid_s (zid_s (zid_s (zid_s (zid_s (zid_s (zid_a (zid_a (zid_s (zid_s (zid_s (zid_s (zid_s (zid_s (zid_s (zid_a (zid_a (zid_a (zid_a (zid_a (zid_s (zid_a (zid_s (zid_a (zid_s (zid_s (zid_s (zid_a (zid_a (zid_a (zid_a (zid_s (zid_s zid_n))))))))))))))))))))))))))))))))))))))))) (zid_s (zid_s (zid_a zid_n))) ?_
  delta f_L_town at h
  refine g_aload_n (pc' := 1)  hc rfl rfl rfl rfl ?_
  refine g_iconst (pc' := 2) (v := (0 : Int32)) hc rfl zki_0 rfl ?_
  refine g_aload_n (pc' := 3)  hc rfl rfl rfl rfl ?_
  refine g_iload_n (pc' := 4)  hc rfl rfl rfl ?_
  refine z_virt (as := [.int a1]) (a := 0) (r := [.int (0 : Int32), .ref 107]) hc rfl rfl rfl rfl sh_0 rfl zco_98 rfl rfl rfl ?_
  refine ok_X11_town_0_q (zdp hd rfl) (zwp_mono (zwp_bind h) ?_)
  rintro ⟨(r44 | E45), sw, o1, o2, o3, o4, o5, o6, o7, o8, o9, o10, o11, o12, o13, o14, o15, o16, o17, o18, o19, o20, o21, o22, o23, o24, o25, o26, o27, o28, o29, o30, o31, o32, o33, o34, o35, o36, o37, o38, o39, o40, o41, o42, o43⟩ h
  · refine z_po (pc' := 7) (st' := [.int r44, .int (0 : Int32), .ref 107]) (v := (some (.int r44))) (L' := [(0, some 2, fun _ => o3), (0, some 8, fun _ => o4), (1, some 1, fun _ => o43), (1, some 2, fun _ => o40), (1, some 3, fun _ => o42), (1, some 4, fun _ => o38), (1, some 5, fun _ => o39), (1, some 6, fun _ => o41), (3, some 1, fun _ => o13), (4, some 1, fun _ => o19), (4, some 2, fun _ => o15), (4, some 3, fun _ => o16), (4, some 4, fun _ => o14), (4, some 5, fun _ => o17), (5, none, o18), (6, none, o20), (7, some 0, fun _ => o37), (7, some 1, fun _ => o26), (7, some 3, fun _ => o23), (7, some 7, fun _ => o32), (7, some 9, fun _ => o30), (7, some 11, fun _ => o22), (7, some 12, fun _ => o21), (8, none, o33), (9, none, o34), (10, none, o36), (11, none, o31), (12, none, o29), (13, some 2, fun _ => o25), (15, none, o24), (16, some 2, fun _ => o28), (18, none, o27), (31, some 0, fun _ => o8), (31, some 1, fun _ => o10), (31, some 3, fun _ => o6), (32, none, o5), (33, none, o11), (34, none, o7), (35, none, o9), (36, some 2, fun _ => o1), (36, some 3, fun _ => o2)]) (K' := [(7, some 2, fun _ => o35), (31, some 2, fun _ => o12), (107, none, (J 107))]) zco_98 rfl rfl rfl rfl rfl rfl rfl rfl ?_
    refine g_i2l (pc' := 8)  hc rfl rfl ?_
    have hb := (zwp_bnd h).1
    replace h := (zwp_bnd h).2
    refine z_lastore (pc' := 9) (g := (J 107)) (K' := [(7, some 2, fun _ => o35), (31, some 2, fun _ => o12), (107, none, (vp_updL ((J 107)) (0 : Int32).toNatClampNeg r44.toInt64))]) hc rfl rfl sh_107 hb rfl rfl rfl rfl ?_
    refine g_goto hc rfl ?_
    refine g_iconst (pc' := 16) (v := (0 : Int32)) hc rfl zki_0 rfl ?_
    replace h := zws h
    exact g_ireturn hc rfl rfl rfl (fun _ => ⟨rfl, rfl⟩) h
  · by_cases hE : E45 = x_I
    · replace h := zwp_t h hE
      replace h := zws h
      exact z_poh (L' := [(0, some 2, fun _ => o3), (0, some 8, fun _ => o4), (1, some 1, fun _ => o43), (1, some 2, fun _ => o40), (1, some 3, fun _ => o42), (1, some 4, fun _ => o38), (1, some 5, fun _ => o39), (1, some 6, fun _ => o41), (3, some 1, fun _ => o13), (4, some 1, fun _ => o19), (4, some 2, fun _ => o15), (4, some 3, fun _ => o16), (4, some 4, fun _ => o14), (4, some 5, fun _ => o17), (5, none, o18), (6, none, o20), (7, some 0, fun _ => o37), (7, some 1, fun _ => o26), (7, some 3, fun _ => o23), (7, some 7, fun _ => o32), (7, some 9, fun _ => o30), (7, some 11, fun _ => o22), (7, some 12, fun _ => o21), (8, none, o33), (9, none, o34), (10, none, o36), (11, none, o31), (12, none, o29), (13, some 2, fun _ => o25), (15, none, o24), (16, some 2, fun _ => o28), (18, none, o27), (31, some 0, fun _ => o8), (31, some 1, fun _ => o10), (31, some 3, fun _ => o6), (32, none, o5), (33, none, o11), (34, none, o7), (35, none, o9), (36, some 2, fun _ => o1), (36, some 3, fun _ => o2)]) (K' := [(7, some 2, fun _ => o35), (31, some 2, fun _ => o12), (107, none, (J 107))]) (zhd1 (e := 9) (pc := 4) rfl hE) rfl rfl rfl rfl rfl rfl rfl rfl h
    replace h := zwp_f h hE
    exact (zwn h).elim
set_option maxRecDepth 4000 in
theorem ok_X10_measure_58_19_31 {p q : Nat} {I : pI} {J : pJ} {a3 : Int32} {Q : pQ} {d : Nat} (hd : 3 ≤ d) (h : zwp (f_X10_measure a3 (I 59) (I 19 1) (I 19 0) (I 60) (J 31 2)) (fun w => match w with | (o0, o1) => Q (.inl none) (zS p q I [(59, none, o0), (60, none, o1)] J []))) : pm_call M cost zext d 92 [.ref 58, .ref 19, .ref 31, .int a3] (pm_st 108 (shp p q) I J) Q := by
  obtain ⟨d, rfl⟩ := zd1 hd rfl
  have hc := pm_call_m (M := M) (cost := cost) zext_m d
  refine z_in (L := [(59, none, (I 59)), (60, none, (I 60))]) (K := []) (ls := [some (.ref 58), some (.ref 19), some (.ref 31), some (.int a3), none, none, none, none, none]) zmt_92 zco_92 rfl rfl (zid_a (zid_a zid_n)) zid_n ?_
  delta f_X10_measure at h
  refine g_aload_n (pc' := 1)  hc rfl rfl rfl rfl ?_
  refine z_getR (pc' := 4)  hc rfl rfl rfl sh_58 rfl rfl ?_
  refine g_iconst (pc' := 5) (v := (-1 : Int32)) hc rfl zki_m1 rfl ?_
  refine z_stat (as := [.ref 59, .int (-1 : Int32)]) (r := []) hc rfl rfl rfl rfl zco_268 rfl rfl rfl ?_
  refine ok_J7_fill_53178_59 (zdp hd rfl) (zwp_mono (zwp_bind h) ?_)
  rintro o1 h
  refine z_po (pc' := 8) (st' := []) (v := none) (L' := [(59, none, o1), (60, none, (I 60))]) (K' := []) zco_268 rfl rfl rfl rfl rfl rfl rfl rfl ?_
  refine g_aload_n (pc' := 9)  hc rfl rfl rfl rfl ?_
  refine z_getR (pc' := 12)  hc rfl rfl rfl sh_58 rfl rfl ?_
  refine g_iload_n (pc' := 13)  hc rfl rfl rfl ?_
  refine g_iconst (pc' := 14) (v := (0 : Int32)) hc rfl zki_0 rfl ?_
  have hb := (zwp_bnd h).1
  replace h := (zwp_bnd h).2
  refine z_iastore (pc' := 15) (g := o1) (L' := [(59, none, (upd o1 a3.toNatClampNeg (0 : Int32))), (60, none, (I 60))]) hc rfl rfl sh_59 hb rfl rfl rfl rfl ?_
  refine g_aload_n (pc' := 16)  hc rfl rfl rfl rfl ?_
  refine z_getR (pc' := 19)  hc rfl rfl rfl sh_58 rfl rfl ?_
  refine g_iconst (pc' := 20) (v := (0 : Int32)) hc rfl zki_0 rfl ?_
  refine g_iload_n (pc' := 21)  hc rfl rfl rfl ?_
  refine z_iastore (pc' := 22) (g := (I 60)) (L' := [(59, none, (upd o1 a3.toNatClampNeg (0 : Int32))), (60, none, (upd ((I 60)) 0 a3))]) hc rfl rfl sh_60 (by decide) rfl rfl rfl rfl ?_
  refine g_aload_n (pc' := 23)  hc rfl rfl rfl rfl ?_
  refine g_iload_n (pc' := 24)  hc rfl rfl rfl ?_
  refine z_virt (as := [.int a3]) (a := 31) (r := []) hc rfl rfl rfl rfl sh_31 rfl zco_71 rfl rfl rfl ?_
  refine ok_X8_isWall_31 (zdp hd rfl) (zwp_mono (zwp_bind h) ?_)
  rintro r2 h
  refine z_po (pc' := 27) (st' := [.int r2]) (v := (some (.int r2))) (L' := [(59, none, (upd o1 a3.toNatClampNeg (0 : Int32))), (60, none, (upd ((I 60)) 0 a3))]) (K' := []) zco_71 rfl rfl rfl rfl rfl rfl rfl rfl ?_
  refine zjn (G := (fun (j3 : Int32) => pm_ev C_X10_measure (d + 1) (pm_call M cost zext d) cost (false, false) 108 0 0 Q 35 [some (.ref 58), some (.ref 19), some (.ref 31), some (.int a3), none, none, none, none, none] [.int j3] 0 0 (zS p q I [(59, none, (upd o1 a3.toNatClampNeg (0 : Int32))), (60, none, (upd ((I 60)) 0 a3))] J []))) (zwp_bind h) ?_ (fun h => ?_)
  · rintro j3 h
    refine g_istore (pc' := 37) (ls1 := [some (.ref 58), some (.ref 19), some (.ref 31), some (.int a3), some (.int j3), none, none, none, none]) hc rfl (zlt rfl) rfl rfl ?_
    refine g_iconst (pc' := 38) (v := (0 : Int32)) hc rfl zki_0 rfl ?_
    refine g_istore (pc' := 40) (ls1 := [some (.ref 58), some (.ref 19), some (.ref 31), some (.int a3), some (.int j3), some (.int (0 : Int32)), none, none, none]) hc rfl (zlt rfl) rfl rfl ?_
    refine zjn (G := (fun (g : (Nat → Int32) × (Nat → Int32)) => match g with | (y16, y17) => ∀ z11 : Option Value, znl z11 = true → ∀ z12 : Option Value, znl z12 = true → ∀ z13 : Option Value, znl z13 = true → ∀ z14 : Option Value, znl z14 = true → ∀ z15 : Option Value, znl z15 = true → pm_ev C_X10_measure (d + 1) (pm_call M cost zext d) cost (false, false) 108 0 0 Q 158 [some (.ref 58), some (.ref 19), some (.ref 31), some (.int a3), z11, z12, z13, z14, z15] [] 0 0 (zS p q I [(59, none, y16), (60, none, y17)] J []))) (zwp_bind h) ?_ (fun h => ?_)
    · rintro ⟨y16, y17⟩ h z11 hz11 z12 hz12 z13 hz13 z14 hz14 z15 hz15
      replace h := zws h
      exact g_return hc rfl rfl (fun _ => ⟨rfl, rfl⟩) h
    refine zitr_ev (G := (fun (g : Int32 × Int32 × (Nat → Int32) × (Nat → Int32)) => match g with | (x4, x5, x9, x10) => ∀ z6 : Option Value, znl z6 = true → ∀ z7 : Option Value, znl z7 = true → ∀ z8 : Option Value, znl z8 = true → pm_ev C_X10_measure (d + 1) (pm_call M cost zext d) cost (false, false) 108 0 0 Q 40 [some (.ref 58), some (.ref 19), some (.ref 31), some (.int a3), some (.int x4), some (.int x5), z6, z7, z8] [] 0 0 (zS p q I [(59, none, x9), (60, none, x10)] J []))) ?_ zFU (j3, (0 : Int32), (upd o1 a3.toNatClampNeg (0 : Int32)), (upd ((I 60)) 0 a3)) h none rfl none rfl none rfl
    rintro ⟨x4, x5, x9, x10⟩ h z6 hz6 z7 hz7 z8 hz8
    refine g_iload (pc' := 42)  hc rfl rfl rfl ?_
    refine g_iload (pc' := 44)  hc rfl rfl rfl ?_
    refine g_icmp_ge (pc' := 47) hc rfl rfl (fun hx => ?_) (fun hx => ?_)
    · replace h := zwp_t h hx
      replace h := zwp_r h
      exact h (some (.int x4)) rfl (some (.int x5)) rfl z6 hz6 z7 hz7 z8 hz8
    · replace h := zwp_f h hx
      refine g_iload (pc' := 49)  hc rfl rfl rfl ?_
      refine g_bipush (pc' := 51) (v := (36 : Int32)) hc rfl zkb_36 rfl ?_
      refine g_icmp_ge (pc' := 54) hc rfl rfl (fun hx => ?_) (fun hx => ?_)
      · replace h := zwp_t h hx
        replace h := zwp_r h
        exact h (some (.int x4)) rfl (some (.int x5)) rfl z6 hz6 z7 hz7 z8 hz8
      · replace h := zwp_f h hx
        refine g_aload_n (pc' := 55)  hc rfl rfl rfl rfl ?_
        refine z_getR (pc' := 58)  hc rfl rfl rfl sh_58 rfl rfl ?_
        refine g_iload (pc' := 60)  hc rfl rfl rfl ?_
        have hb := (zwp_bnd h).1
        replace h := (zwp_bnd h).2
        refine z_iaload (pc' := 61) (v := (x10 x5.toNatClampNeg)) hc rfl rfl sh_60 hb rfl rfl ?_
        refine g_istore (pc' := 63) (ls1 := [some (.ref 58), some (.ref 19), some (.ref 31), some (.int a3), some (.int x4), some (.int x5), some (.int (x10 x5.toNatClampNeg)), z7, z8]) hc rfl (zlt rfl) rfl rfl ?_
        refine g_iconst (pc' := 64) (v := (1 : Int32)) hc rfl zki_1 rfl ?_
        refine g_istore (pc' := 66) (ls1 := [some (.ref 58), some (.ref 19), some (.ref 31), some (.int a3), some (.int x4), some (.int x5), some (.int (x10 x5.toNatClampNeg)), some (.int (1 : Int32)), z8]) hc rfl (zlt rfl) rfl rfl ?_
        refine zjn (G := (fun (g : Int32 × (Nat → Int32) × (Nat → Int32)) => match g with | (y23, y26, y27) => ∀ z24 : Option Value, znl z24 = true → ∀ z25 : Option Value, znl z25 = true → pm_ev C_X10_measure (d + 1) (pm_call M cost zext d) cost (false, false) 108 0 0 Q 152 [some (.ref 58), some (.ref 19), some (.ref 31), some (.int a3), some (.int y23), some (.int x5), some (.int (x10 x5.toNatClampNeg)), z24, z25] [] 0 0 (zS p q I [(59, none, y26), (60, none, y27)] J []))) (zwp_bind h) ?_ (fun h => ?_)
        · rintro ⟨y23, y26, y27⟩ h z24 hz24 z25 hz25
          refine g_iinc (pc' := 155) (ls1 := [some (.ref 58), some (.ref 19), some (.ref 31), some (.int a3), some (.int y23), some (.int (x5 + (1 : Int32))), some (.int (x10 x5.toNatClampNeg)), z24, z25]) hc rfl rfl zki_1 (zlt rfl) rfl rfl ?_
          refine g_goto hc rfl ?_
          replace h := zwp_l h
          exact h (some (.int (x10 x5.toNatClampNeg))) rfl z24 hz24 z25 hz25
        refine zitr_ev (G := (fun (g : Int32 × Int32 × (Nat → Int32) × (Nat → Int32)) => match g with | (x18, x19, x21, x22) => ∀ z20 : Option Value, znl z20 = true → pm_ev C_X10_measure (d + 1) (pm_call M cost zext d) cost (false, false) 108 0 0 Q 66 [some (.ref 58), some (.ref 19), some (.ref 31), some (.int a3), some (.int x18), some (.int x5), some (.int (x10 x5.toNatClampNeg)), some (.int x19), z20] [] 0 0 (zS p q I [(59, none, x21), (60, none, x22)] J []))) ?_ zFU (x4, (1 : Int32), x9, x10) h z8 hz8
        rintro ⟨x18, x19, x21, x22⟩ h z20 hz20
        refine g_iload (pc' := 68)  hc rfl rfl rfl ?_
        refine g_iconst (pc' := 69) (v := (4 : Int32)) hc rfl zki_4 rfl ?_
        refine g_icmp_gt (pc' := 72) hc rfl rfl (fun hx => ?_) (fun hx => ?_)
        · replace h := zwp_t h hx
          replace h := zwp_r h
          exact h (some (.int x19)) rfl z20 hz20
        · replace h := zwp_f h hx
          refine g_aload_n (pc' := 73)  hc rfl rfl rfl rfl ?_
          refine g_iload (pc' := 75)  hc rfl rfl rfl ?_
          refine g_iload (pc' := 77)  hc rfl rfl rfl ?_
          refine z_virt (as := [.int (x10 x5.toNatClampNeg), .int x19]) (a := 19) (r := []) hc rfl rfl rfl rfl sh_19 rfl zco_28 rfl rfl rfl ?_
          refine ok_X3_beside_19 (zdp hd rfl) (zwp_mono (zwp_bind h) ?_)
          rintro r28 h
          refine z_po (pc' := 80) (st' := [.int r28]) (v := (some (.int r28))) (L' := [(59, none, x21), (60, none, x22)]) (K' := []) zco_28 rfl rfl rfl rfl rfl rfl rfl rfl ?_
          refine g_istore (pc' := 82) (ls1 := [some (.ref 58), some (.ref 19), some (.ref 31), some (.int a3), some (.int x18), some (.int x5), some (.int (x10 x5.toNatClampNeg)), some (.int x19), some (.int r28)]) hc rfl (zlt rfl) rfl rfl ?_
          refine g_iload (pc' := 84)  hc rfl rfl rfl ?_
          refine g_iconst (pc' := 85) (v := (-1 : Int32)) hc rfl zki_m1 rfl ?_
          refine g_icmp_eq (pc' := 88) hc rfl rfl (fun hx => ?_) (fun hx => ?_)
          · replace h := zwp_t h hx
            refine g_iinc (pc' := 149) (ls1 := [some (.ref 58), some (.ref 19), some (.ref 31), some (.int a3), some (.int x18), some (.int x5), some (.int (x10 x5.toNatClampNeg)), some (.int (x19 + (1 : Int32))), some (.int r28)]) hc rfl rfl zki_1 (zlt rfl) rfl rfl ?_
            refine g_goto hc rfl ?_
            replace h := zwp_l h
            exact h (some (.int r28)) rfl
          · replace h := zwp_f h hx
            refine g_aload_n (pc' := 89)  hc rfl rfl rfl rfl ?_
            refine z_getR (pc' := 92)  hc rfl rfl rfl sh_58 rfl rfl ?_
            refine g_iload (pc' := 94)  hc rfl rfl rfl ?_
            have hb := (zwp_bnd h).1
            replace h := (zwp_bnd h).2
            refine z_iaload (pc' := 95) (v := (x21 r28.toNatClampNeg)) hc rfl rfl sh_59 hb rfl rfl ?_
            refine g_iconst (pc' := 96) (v := (-1 : Int32)) hc rfl zki_m1 rfl ?_
            refine g_icmp_eq (pc' := 99) hc rfl rfl (fun hx => ?_) (fun hx => ?_)
            · replace h := zwp_t h hx
              refine g_aload_n (pc' := 103)  hc rfl rfl rfl rfl ?_
              refine z_getR (pc' := 106)  hc rfl rfl rfl sh_58 rfl rfl ?_
              refine g_iload (pc' := 108)  hc rfl rfl rfl ?_
              refine g_aload_n (pc' := 109)  hc rfl rfl rfl rfl ?_
              refine z_getR (pc' := 112)  hc rfl rfl rfl sh_58 rfl rfl ?_
              refine g_iload (pc' := 114)  hc rfl rfl rfl ?_
              have hb := (zwp_bnd h).1
              replace h := (zwp_bnd h).2
              refine z_iaload (pc' := 115) (v := (x21 (x10 x5.toNatClampNeg).toNatClampNeg)) hc rfl rfl sh_59 hb rfl rfl ?_
              refine g_iconst (pc' := 116) (v := (1 : Int32)) hc rfl zki_1 rfl ?_
              refine g_iadd (pc' := 117)  hc rfl rfl ?_
              have hb := (zwp_bnd h).1
              replace h := (zwp_bnd h).2
              refine z_iastore (pc' := 118) (g := x21) (L' := [(59, none, (upd x21 r28.toNatClampNeg ((x21 (x10 x5.toNatClampNeg).toNatClampNeg) + (1 : Int32)))), (60, none, x22)]) hc rfl rfl sh_59 hb rfl rfl rfl rfl ?_
              refine g_aload_n (pc' := 119)  hc rfl rfl rfl rfl ?_
              refine g_iload (pc' := 121)  hc rfl rfl rfl ?_
              refine z_virt (as := [.int r28]) (a := 31) (r := []) hc rfl rfl rfl rfl sh_31 rfl zco_71 rfl rfl rfl ?_
              refine ok_X8_isWall_31 (zdp hd rfl) (zwp_mono (zwp_bind h) ?_)
              rintro r29 h
              refine z_po (pc' := 124) (st' := [.int r29]) (v := (some (.int r29))) (L' := [(59, none, (upd x21 r28.toNatClampNeg ((x21 (x10 x5.toNatClampNeg).toNatClampNeg) + (1 : Int32)))), (60, none, x22)]) (K' := []) zco_71 rfl rfl rfl rfl rfl rfl rfl rfl ?_
              refine g_if_ne (pc' := 127) hc rfl rfl (fun hx => ?_) (fun hx => ?_)
              · replace h := zwp_f h hx
                refine g_iinc (pc' := 149) (ls1 := [some (.ref 58), some (.ref 19), some (.ref 31), some (.int a3), some (.int x18), some (.int x5), some (.int (x10 x5.toNatClampNeg)), some (.int (x19 + (1 : Int32))), some (.int r28)]) hc rfl rfl zki_1 (zlt rfl) rfl rfl ?_
                refine g_goto hc rfl ?_
                replace h := zwp_l h
                exact h (some (.int r28)) rfl
              · replace h := zwp_t h hx
                refine g_iload (pc' := 129)  hc rfl rfl rfl ?_
                refine g_bipush (pc' := 131) (v := (36 : Int32)) hc rfl zkb_36 rfl ?_
                refine g_icmp_ge (pc' := 134) hc rfl rfl (fun hx => ?_) (fun hx => ?_)
                · replace h := zwp_t h hx
                  refine g_iinc (pc' := 149) (ls1 := [some (.ref 58), some (.ref 19), some (.ref 31), some (.int a3), some (.int x18), some (.int x5), some (.int (x10 x5.toNatClampNeg)), some (.int (x19 + (1 : Int32))), some (.int r28)]) hc rfl rfl zki_1 (zlt rfl) rfl rfl ?_
                  refine g_goto hc rfl ?_
                  replace h := zwp_l h
                  exact h (some (.int r28)) rfl
                · replace h := zwp_f h hx
                  refine g_aload_n (pc' := 135)  hc rfl rfl rfl rfl ?_
                  refine z_getR (pc' := 138)  hc rfl rfl rfl sh_58 rfl rfl ?_
                  refine g_iload (pc' := 140)  hc rfl rfl rfl ?_
                  refine g_iload (pc' := 142)  hc rfl rfl rfl ?_
                  have hb := (zwp_bnd h).1
                  replace h := (zwp_bnd h).2
                  refine z_iastore (pc' := 143) (g := x22) (L' := [(59, none, (upd x21 r28.toNatClampNeg ((x21 (x10 x5.toNatClampNeg).toNatClampNeg) + (1 : Int32)))), (60, none, (upd x22 x18.toNatClampNeg r28))]) hc rfl rfl sh_60 hb rfl rfl rfl rfl ?_
                  refine g_iinc (pc' := 146) (ls1 := [some (.ref 58), some (.ref 19), some (.ref 31), some (.int a3), some (.int (x18 + (1 : Int32))), some (.int x5), some (.int (x10 x5.toNatClampNeg)), some (.int x19), some (.int r28)]) hc rfl rfl zki_1 (zlt rfl) rfl rfl ?_
                  refine g_iinc (pc' := 149) (ls1 := [some (.ref 58), some (.ref 19), some (.ref 31), some (.int a3), some (.int (x18 + (1 : Int32))), some (.int x5), some (.int (x10 x5.toNatClampNeg)), some (.int (x19 + (1 : Int32))), some (.int r28)]) hc rfl rfl zki_1 (zlt rfl) rfl rfl ?_
                  refine g_goto hc rfl ?_
                  replace h := zwp_l h
                  exact h (some (.int r28)) rfl
            · replace h := zwp_f h hx
              refine g_goto hc rfl ?_
              refine g_iinc (pc' := 149) (ls1 := [some (.ref 58), some (.ref 19), some (.ref 31), some (.int a3), some (.int x18), some (.int x5), some (.int (x10 x5.toNatClampNeg)), some (.int (x19 + (1 : Int32))), some (.int r28)]) hc rfl rfl zki_1 (zlt rfl) rfl rfl ?_
              refine g_goto hc rfl ?_
              replace h := zwp_l h
              exact h (some (.int r28)) rfl
  refine g_if_eq (pc' := 30) hc rfl rfl (fun hx => ?_) (fun hx => ?_)
  · replace h := zwp_t h hx
    refine g_iconst (pc' := 35) (v := (1 : Int32)) hc rfl zki_1 rfl ?_
    replace h := zws h
    exact h
  · replace h := zwp_f h hx
    refine g_iconst (pc' := 31) (v := (0 : Int32)) hc rfl zki_0 rfl ?_
    refine g_goto hc rfl ?_
    replace h := zws h
    exact h
set_option maxRecDepth 4000 in
theorem ok_X10_parts_58_19_31 {p q : Nat} {I : pI} {J : pJ} {Q : pQ} {d : Nat} (hd : 4 ≤ d) (h : zwp (f_X10_parts (I 59) (I 19 1) (I 19 0) (I 60) (J 31 2)) (fun w => match w with | (r, o0, o1) => Q (.inl (some (.int r))) (zS p q I [(59, none, o0), (60, none, o1)] J []))) : pm_call M cost zext d 94 [.ref 58, .ref 19, .ref 31] (pm_st 108 (shp p q) I J) Q := by
  obtain ⟨d, rfl⟩ := zd1 hd rfl
  have hc := pm_call_m (M := M) (cost := cost) zext_m d
  refine z_in (L := [(59, none, (I 59)), (60, none, (I 60))]) (K := []) (ls := [some (.ref 58), some (.ref 19), some (.ref 31), none, none, none, none, none]) zmt_94 zco_94 rfl rfl (zid_a (zid_a zid_n)) zid_n ?_
  delta f_X10_parts at h
  refine g_aload_n (pc' := 1)  hc rfl rfl rfl rfl ?_
  refine z_getJ (pc' := 4) (v := (J 31 2)) hc rfl rfl rfl sh_31 rfl rfl rfl ?_
  refine g_lstore_n (pc' := 5) (ls1 := [some (.ref 58), some (.ref 19), some (.ref 31), some (.long (J 31 2)), none, none, none, none]) hc rfl (zlt rfl) rfl rfl ?_
  refine g_iconst (pc' := 6) (v := (0 : Int32)) hc rfl zki_0 rfl ?_
  refine g_istore (pc' := 8) (ls1 := [some (.ref 58), some (.ref 19), some (.ref 31), some (.long (J 31 2)), none, some (.int (0 : Int32)), none, none]) hc rfl (zlt rfl) rfl rfl ?_
  refine g_iconst (pc' := 9) (v := (0 : Int32)) hc rfl zki_0 rfl ?_
  refine g_istore (pc' := 11) (ls1 := [some (.ref 58), some (.ref 19), some (.ref 31), some (.long (J 31 2)), none, some (.int (0 : Int32)), some (.int (0 : Int32)), none]) hc rfl (zlt rfl) rfl rfl ?_
  refine zjn (G := (fun (g : Int64 × Int32 × (Nat → Int32) × (Nat → Int32)) => match g with | (y7, y8, y11, y12) => ∀ z9 : Option Value, znl z9 = true → ∀ z10 : Option Value, znl z10 = true → pm_ev C_X10_parts (d + 1) (pm_call M cost zext d) cost (false, false) 108 0 0 Q 89 [some (.ref 58), some (.ref 19), some (.ref 31), some (.long y7), none, some (.int y8), z9, z10] [] 0 0 (zS p q I [(59, none, y11), (60, none, y12)] J []))) (zwp_bind h) ?_ (fun h => ?_)
  · rintro ⟨y7, y8, y11, y12⟩ h z9 hz9 z10 hz10
    refine g_iload (pc' := 91)  hc rfl rfl rfl ?_
    replace h := zws h
    exact g_ireturn hc rfl rfl rfl (fun _ => ⟨rfl, rfl⟩) h
  refine zitr_ev (G := (fun (g : Int64 × Int32 × Int32 × (Nat → Int32) × (Nat → Int32)) => match g with | (x1, x2, x3, x5, x6) => ∀ z4 : Option Value, znl z4 = true → pm_ev C_X10_parts (d + 1) (pm_call M cost zext d) cost (false, false) 108 0 0 Q 11 [some (.ref 58), some (.ref 19), some (.ref 31), some (.long x1), none, some (.int x2), some (.int x3), z4] [] 0 0 (zS p q I [(59, none, x5), (60, none, x6)] J []))) ?_ zFU ((J 31 2), (0 : Int32), (0 : Int32), (I 59), (I 60)) h none rfl
  rintro ⟨x1, x2, x3, x5, x6⟩ h z4 hz4
  refine g_iload (pc' := 13)  hc rfl rfl rfl ?_
  refine g_aload_n (pc' := 14)  hc rfl rfl rfl rfl ?_
  refine z_virt (as := []) (a := 19) (r := [.int x3]) hc rfl rfl rfl rfl sh_19 rfl zco_21 rfl rfl rfl ?_
  refine ok_X3_cells_19 (zdp hd rfl) (zwp_mono (zwp_bind h) ?_)
  rintro r13 h
  refine z_po (pc' := 17) (st' := [.int r13, .int x3]) (v := (some (.int r13))) (L' := [(59, none, x5), (60, none, x6)]) (K' := []) zco_21 rfl rfl rfl rfl rfl rfl rfl rfl ?_
  refine g_icmp_ge (pc' := 20) hc rfl rfl (fun hx => ?_) (fun hx => ?_)
  · replace h := zwp_t h hx
    replace h := zwp_r h
    exact h (some (.int x3)) rfl z4 hz4
  · replace h := zwp_f h hx
    refine g_lload_n (pc' := 21)  hc rfl rfl rfl ?_
    refine g_iload (pc' := 23)  hc rfl rfl rfl ?_
    refine g_lushr (pc' := 24)  hc rfl rfl ?_
    refine g_lconst (pc' := 25) (v := (1 : Int64)) hc rfl zkl_1 rfl ?_
    refine g_land (pc' := 26)  hc rfl rfl ?_
    refine g_lconst (pc' := 27) (v := (0 : Int64)) hc rfl zkl_0 rfl ?_
    refine g_lcmp (pc' := 28)  hc rfl rfl ?_
    refine g_if_eq (pc' := 31) hc rfl rfl (fun hx => ?_) (fun hx => ?_)
    · replace h := zwp_t h hx
      refine g_iinc (pc' := 37) (ls1 := [some (.ref 58), some (.ref 19), some (.ref 31), some (.long x1), none, some (.int (x2 + (1 : Int32))), some (.int x3), z4]) hc rfl rfl zki_1 (zlt rfl) rfl rfl ?_
      refine g_aload_n (pc' := 38)  hc rfl rfl rfl rfl ?_
      refine g_aload_n (pc' := 39)  hc rfl rfl rfl rfl ?_
      refine g_aload_n (pc' := 40)  hc rfl rfl rfl rfl ?_
      refine g_iload (pc' := 42)  hc rfl rfl rfl ?_
      refine z_virt (as := [.ref 19, .ref 31, .int x3]) (a := 58) (r := []) hc rfl rfl rfl rfl sh_58 rfl zco_92 rfl rfl rfl ?_
      refine ok_X10_measure_58_19_31 (zdp hd rfl) (zwp_mono (zwp_bind h) ?_)
      rintro ⟨o14, o15⟩ h
      refine z_po (pc' := 45) (st' := []) (v := none) (L' := [(59, none, o14), (60, none, o15)]) (K' := []) zco_92 rfl rfl rfl rfl rfl rfl rfl rfl ?_
      refine g_iconst (pc' := 46) (v := (0 : Int32)) hc rfl zki_0 rfl ?_
      refine g_istore (pc' := 48) (ls1 := [some (.ref 58), some (.ref 19), some (.ref 31), some (.long x1), none, some (.int (x2 + (1 : Int32))), some (.int x3), some (.int (0 : Int32))]) hc rfl (zlt rfl) rfl rfl ?_
      refine zjn (G := (fun (y18 : Int64) => ∀ z19 : Option Value, znl z19 = true → pm_ev C_X10_parts (d + 1) (pm_call M cost zext d) cost (false, false) 108 0 0 Q 83 [some (.ref 58), some (.ref 19), some (.ref 31), some (.long y18), none, some (.int (x2 + (1 : Int32))), some (.int x3), z19] [] 0 0 (zS p q I [(59, none, o14), (60, none, o15)] J []))) (zwp_bind h) ?_ (fun h => ?_)
      · rintro y18 h z19 hz19
        refine g_iinc (pc' := 86) (ls1 := [some (.ref 58), some (.ref 19), some (.ref 31), some (.long y18), none, some (.int (x2 + (1 : Int32))), some (.int (x3 + (1 : Int32))), z19]) hc rfl rfl zki_1 (zlt rfl) rfl rfl ?_
        refine g_goto hc rfl ?_
        replace h := zwp_l h
        exact h z19 hz19
      refine zitr_ev (G := (fun (g : Int64 × Int32) => match g with | (x16, x17) => pm_ev C_X10_parts (d + 1) (pm_call M cost zext d) cost (false, false) 108 0 0 Q 48 [some (.ref 58), some (.ref 19), some (.ref 31), some (.long x16), none, some (.int (x2 + (1 : Int32))), some (.int x3), some (.int x17)] [] 0 0 (zS p q I [(59, none, o14), (60, none, o15)] J []))) ?_ zFU (x1, (0 : Int32)) h
      rintro ⟨x16, x17⟩ h
      refine g_iload (pc' := 50)  hc rfl rfl rfl ?_
      refine g_bipush (pc' := 52) (v := (36 : Int32)) hc rfl zkb_36 rfl ?_
      refine g_icmp_ge (pc' := 55) hc rfl rfl (fun hx => ?_) (fun hx => ?_)
      · replace h := zwp_t h hx
        replace h := zwp_r h
        exact h (some (.int x17)) rfl
      · replace h := zwp_f h hx
        refine g_aload_n (pc' := 56)  hc rfl rfl rfl rfl ?_
        refine z_getR (pc' := 59)  hc rfl rfl rfl sh_58 rfl rfl ?_
        refine g_iload (pc' := 61)  hc rfl rfl rfl ?_
        have hb := (zwp_bnd h).1
        replace h := (zwp_bnd h).2
        refine z_iaload (pc' := 62) (v := (o14 x17.toNatClampNeg)) hc rfl rfl sh_59 hb rfl rfl ?_
        refine g_iconst (pc' := 63) (v := (-1 : Int32)) hc rfl zki_m1 rfl ?_
        refine zjn (G := (fun (j20 : Int64) => pm_ev C_X10_parts (d + 1) (pm_call M cost zext d) cost (false, false) 108 0 0 Q 76 [some (.ref 58), some (.ref 19), some (.ref 31), some (.long x16), none, some (.int (x2 + (1 : Int32))), some (.int x3), some (.int x17)] [.long j20] 0 0 (zS p q I [(59, none, o14), (60, none, o15)] J []))) (zwp_bind h) ?_ (fun h => ?_)
        · rintro j20 h
          refine g_lstore_n (pc' := 77) (ls1 := [some (.ref 58), some (.ref 19), some (.ref 31), some (.long j20), none, some (.int (x2 + (1 : Int32))), some (.int x3), some (.int x17)]) hc rfl (zlt rfl) rfl rfl ?_
          refine g_iinc (pc' := 80) (ls1 := [some (.ref 58), some (.ref 19), some (.ref 31), some (.long j20), none, some (.int (x2 + (1 : Int32))), some (.int x3), some (.int (x17 + (1 : Int32)))]) hc rfl rfl zki_1 (zlt rfl) rfl rfl ?_
          refine g_goto hc rfl ?_
          replace h := zwp_l h
          exact h
        refine g_icmp_ne (pc' := 66) hc rfl rfl (fun hx => ?_) (fun hx => ?_)
        · replace h := zwp_f h hx
          refine g_lload_n (pc' := 71)  hc rfl rfl rfl ?_
          refine g_lconst (pc' := 72) (v := (1 : Int64)) hc rfl zkl_1 rfl ?_
          refine g_iload (pc' := 74)  hc rfl rfl rfl ?_
          refine g_lshl (pc' := 75)  hc rfl rfl ?_
          refine g_lor (pc' := 76)  hc rfl rfl ?_
          replace h := zws h
          exact h
        · replace h := zwp_t h hx
          refine g_lload_n (pc' := 67)  hc rfl rfl rfl ?_
          refine g_goto hc rfl ?_
          replace h := zws h
          exact h
    · replace h := zwp_f h hx
      refine g_goto hc rfl ?_
      refine g_iinc (pc' := 86) (ls1 := [some (.ref 58), some (.ref 19), some (.ref 31), some (.long x1), none, some (.int x2), some (.int (x3 + (1 : Int32))), z4]) hc rfl rfl zki_1 (zlt rfl) rfl rfl ?_
      refine g_goto hc rfl ?_
      replace h := zwp_l h
      exact h z4 hz4
set_option maxRecDepth 4000 in
theorem ok_X11_count_0_q {I : pI} {J : pJ} {a1 : Int32} {Q : pQ} {d : Nat} (hd : 7 ≤ d) (h : zwp (f_X11_count a1 (I 36 2) (I 36 3) (I 31 3) (I 34) (I 31 0) (I 31 1) (I 33) (J 31 2) (I 19 12) (I 19 3) (I 19 1) (I 24) (I 19 9) (I 19 7) (I 19 0) (I 6) (I 1 1) (I 59) (I 60)) (fun w => match w with | (.inl r, o0, o1) => Q (.inl (some (.int r))) (zS 19 7 I [(59, none, o0), (60, none, o1)] J []) | (.inr E, o0, o1) => Q (.inr E) (zS 19 7 I [(59, none, o0), (60, none, o1)] J []))) : pm_call M cost zext d 100 [.ref 0, .int a1] (pm_st 108 (shp 19 7) I J) Q := by
  obtain ⟨d, rfl⟩ := zd1 hd rfl
  have hc := pm_call_m (M := M) (cost := cost) zext_m d
  refine z_in (L := [(59, none, (I 59)), (60, none, (I 60))]) (K := []) (ls := [some (.ref 0), some (.int a1)]) zmt_100 zco_100 rfl rfl (zid_a (zid_a zid_n)) zid_n ?_
  delta f_X11_count at h
  refine g_iload_n (pc' := 1)  hc rfl rfl rfl ?_
  by_cases hx1 : a1 = (0 : Int32)
  · replace h := zwp_t h hx1
    refine z_switch (pc' := 88) hc rfl (by rw [hx1]; decide +kernel) ?_
    refine g_aload_n (pc' := 89)  hc rfl rfl rfl rfl ?_
    refine z_getR (pc' := 92)  hc rfl rfl rfl sh_0 rfl rfl ?_
    refine z_getI (pc' := 95) (v := (I 19 3)) hc rfl rfl rfl sh_19 rfl rfl rfl ?_
    replace h := zws h
    exact g_ireturn hc rfl rfl rfl (fun _ => ⟨rfl, rfl⟩) h
  replace h := zwp_f h hx1
  by_cases hx2 : a1 = (1 : Int32)
  · replace h := zwp_t h hx2
    refine z_switch (pc' := 96) hc rfl (by rw [hx2]; decide +kernel) ?_
    refine g_aload_n (pc' := 97)  hc rfl rfl rfl rfl ?_
    refine z_getR (pc' := 100)  hc rfl rfl rfl sh_0 rfl rfl ?_
    refine z_getI (pc' := 103) (v := (I 19 7)) hc rfl rfl rfl sh_19 rfl rfl rfl ?_
    replace h := zws h
    exact g_ireturn hc rfl rfl rfl (fun _ => ⟨rfl, rfl⟩) h
  replace h := zwp_f h hx2
  by_cases hx3 : a1 = (2 : Int32)
  · replace h := zwp_t h hx3
    refine z_switch (pc' := 104) hc rfl (by rw [hx3]; decide +kernel) ?_
    refine g_aload_n (pc' := 105)  hc rfl rfl rfl rfl ?_
    refine z_getR (pc' := 108)  hc rfl rfl rfl sh_0 rfl rfl ?_
    refine z_getI (pc' := 111) (v := (I 19 0)) hc rfl rfl rfl sh_19 rfl rfl rfl ?_
    replace h := zws h
    exact g_ireturn hc rfl rfl rfl (fun _ => ⟨rfl, rfl⟩) h
  replace h := zwp_f h hx3
  by_cases hx4 : a1 = (3 : Int32)
  · replace h := zwp_t h hx4
    refine z_switch (pc' := 112) hc rfl (by rw [hx4]; decide +kernel) ?_
    refine g_aload_n (pc' := 113)  hc rfl rfl rfl rfl ?_
    refine z_getR (pc' := 116)  hc rfl rfl rfl sh_0 rfl rfl ?_
    refine z_getI (pc' := 119) (v := (I 19 1)) hc rfl rfl rfl sh_19 rfl rfl rfl ?_
    replace h := zws h
    exact g_ireturn hc rfl rfl rfl (fun _ => ⟨rfl, rfl⟩) h
  replace h := zwp_f h hx4
  by_cases hx5 : a1 = (4 : Int32)
  · replace h := zwp_t h hx5
    refine z_switch (pc' := 120) hc rfl (by rw [hx5]; decide +kernel) ?_
    refine g_aload_n (pc' := 121)  hc rfl rfl rfl rfl ?_
    refine z_getR (pc' := 124)  hc rfl rfl rfl sh_0 rfl rfl ?_
    refine z_getI (pc' := 127) (v := (I 31 0)) hc rfl rfl rfl sh_31 rfl rfl rfl ?_
    replace h := zws h
    exact g_ireturn hc rfl rfl rfl (fun _ => ⟨rfl, rfl⟩) h
  replace h := zwp_f h hx5
  by_cases hx6 : a1 = (5 : Int32)
  · replace h := zwp_t h hx6
    refine z_switch (pc' := 128) hc rfl (by rw [hx6]; decide +kernel) ?_
    refine g_aload_n (pc' := 129)  hc rfl rfl rfl rfl ?_
    refine z_getR (pc' := 132)  hc rfl rfl rfl sh_0 rfl rfl ?_
    refine g_aload_n (pc' := 133)  hc rfl rfl rfl rfl ?_
    refine z_getR (pc' := 136)  hc rfl rfl rfl sh_0 rfl rfl ?_
    refine z_getI (pc' := 139) (v := (I 31 0)) hc rfl rfl rfl sh_31 rfl rfl rfl ?_
    refine z_virt (as := [.int (I 31 0)]) (a := 19) (r := []) hc rfl rfl rfl rfl sh_19 rfl zco_22 rfl rfl rfl ?_
    refine ok_X3_lightOf_19 (zdp hd rfl) (zwp_mono (zwp_bind h) ?_)
    rintro r19 h
    refine z_po (pc' := 142) (st' := [.int r19]) (v := (some (.int r19))) (L' := [(59, none, (I 59)), (60, none, (I 60))]) (K' := []) zco_22 rfl rfl rfl rfl rfl rfl rfl rfl ?_
    replace h := zws h
    exact g_ireturn hc rfl rfl rfl (fun _ => ⟨rfl, rfl⟩) h
  replace h := zwp_f h hx6
  by_cases hx7 : a1 = (6 : Int32)
  · replace h := zwp_t h hx7
    refine z_switch (pc' := 143) hc rfl (by rw [hx7]; decide +kernel) ?_
    refine g_aload_n (pc' := 144)  hc rfl rfl rfl rfl ?_
    refine z_getR (pc' := 147)  hc rfl rfl rfl sh_0 rfl rfl ?_
    refine g_aload_n (pc' := 148)  hc rfl rfl rfl rfl ?_
    refine z_getR (pc' := 151)  hc rfl rfl rfl sh_0 rfl rfl ?_
    refine z_getI (pc' := 154) (v := (I 31 0)) hc rfl rfl rfl sh_31 rfl rfl rfl ?_
    refine z_virt (as := [.int (I 31 0)]) (a := 19) (r := []) hc rfl rfl rfl rfl sh_19 rfl zco_23 rfl rfl rfl ?_
    refine ok_X3_isDull_19 (zdp hd rfl) (zwp_mono (zwp_bind h) ?_)
    rintro r20 h
    refine z_po (pc' := 157) (st' := [.int r20]) (v := (some (.int r20))) (L' := [(59, none, (I 59)), (60, none, (I 60))]) (K' := []) zco_23 rfl rfl rfl rfl rfl rfl rfl rfl ?_
    refine g_if_eq (pc' := 160) hc rfl rfl (fun hx => ?_) (fun hx => ?_)
    · replace h := zwp_t h hx
      refine g_iconst (pc' := 165) (v := (0 : Int32)) hc rfl zki_0 rfl ?_
      replace h := zws h
      exact g_ireturn hc rfl rfl rfl (fun _ => ⟨rfl, rfl⟩) h
    · replace h := zwp_f h hx
      refine g_iconst (pc' := 161) (v := (1 : Int32)) hc rfl zki_1 rfl ?_
      refine g_goto hc rfl ?_
      replace h := zws h
      exact g_ireturn hc rfl rfl rfl (fun _ => ⟨rfl, rfl⟩) h
  replace h := zwp_f h hx7
  by_cases hx8 : a1 = (7 : Int32)
  · replace h := zwp_t h hx8
    refine z_switch (pc' := 166) hc rfl (by rw [hx8]; decide +kernel) ?_
    refine g_aload_n (pc' := 167)  hc rfl rfl rfl rfl ?_
    refine z_getR (pc' := 170)  hc rfl rfl rfl sh_0 rfl rfl ?_
    refine z_getI (pc' := 173) (v := (I 31 1)) hc rfl rfl rfl sh_31 rfl rfl rfl ?_
    replace h := zws h
    exact g_ireturn hc rfl rfl rfl (fun _ => ⟨rfl, rfl⟩) h
  replace h := zwp_f h hx8
  by_cases hx9 : a1 = (8 : Int32)
  · replace h := zwp_t h hx9
    refine z_switch (pc' := 174) hc rfl (by rw [hx9]; decide +kernel) ?_
    refine g_aload_n (pc' := 175)  hc rfl rfl rfl rfl ?_
    refine z_getR (pc' := 178)  hc rfl rfl rfl sh_0 rfl rfl ?_
    refine z_getJ (pc' := 181) (v := (J 31 2)) hc rfl rfl rfl sh_31 rfl rfl rfl ?_
    refine z_stat (as := [.long (J 31 2)]) (r := []) hc rfl rfl rfl rfl zco_266 rfl rfl rfl ?_
    refine ok_J13_bitCount_95d88 (zdp hd rfl) (zwp_mono (zwp_bind h) ?_)
    rintro r21 h
    refine z_po (pc' := 184) (st' := [.int r21]) (v := (some (.int r21))) (L' := [(59, none, (I 59)), (60, none, (I 60))]) (K' := []) zco_266 rfl rfl rfl rfl rfl rfl rfl rfl ?_
    replace h := zws h
    exact g_ireturn hc rfl rfl rfl (fun _ => ⟨rfl, rfl⟩) h
  replace h := zwp_f h hx9
  by_cases hx10 : a1 = (9 : Int32)
  · replace h := zwp_t h hx10
    refine z_switch (pc' := 185) hc rfl (by rw [hx10]; decide +kernel) ?_
    refine g_aload_n (pc' := 186)  hc rfl rfl rfl rfl ?_
    refine z_getR (pc' := 189)  hc rfl rfl rfl sh_0 rfl rfl ?_
    refine g_aload_n (pc' := 190)  hc rfl rfl rfl rfl ?_
    refine z_getR (pc' := 193)  hc rfl rfl rfl sh_0 rfl rfl ?_
    refine g_aload_n (pc' := 194)  hc rfl rfl rfl rfl ?_
    refine z_getR (pc' := 197)  hc rfl rfl rfl sh_0 rfl rfl ?_
    refine z_virt (as := [.ref 19, .ref 31]) (a := 58) (r := []) hc rfl rfl rfl rfl sh_58 rfl zco_94 rfl rfl rfl ?_
    refine ok_X10_parts_58_19_31 (zdp hd rfl) (zwp_mono (zwp_bind h) ?_)
    rintro ⟨r24, o22, o23⟩ h
    refine z_po (pc' := 200) (st' := [.int r24]) (v := (some (.int r24))) (L' := [(59, none, o22), (60, none, o23)]) (K' := []) zco_94 rfl rfl rfl rfl rfl rfl rfl rfl ?_
    replace h := zws h
    exact g_ireturn hc rfl rfl rfl (fun _ => ⟨rfl, rfl⟩) h
  replace h := zwp_f h hx10
  by_cases hx11 : a1 = (10 : Int32)
  · replace h := zwp_t h hx11
    refine z_switch (pc' := 201) hc rfl (by rw [hx11]; decide +kernel) ?_
    refine g_aload_n (pc' := 202)  hc rfl rfl rfl rfl ?_
    refine z_getR (pc' := 205)  hc rfl rfl rfl sh_0 rfl rfl ?_
    refine z_virt (as := []) (a := 31) (r := []) hc rfl rfl rfl rfl sh_31 rfl zco_78 rfl rfl rfl ?_
    refine ok_X8_soreOfAll_31 (zdp hd rfl) (zwp_mono (zwp_bind h) ?_)
    rintro r25 h
    refine z_po (pc' := 208) (st' := [.int r25]) (v := (some (.int r25))) (L' := [(59, none, (I 59)), (60, none, (I 60))]) (K' := []) zco_78 rfl rfl rfl rfl rfl rfl rfl rfl ?_
    replace h := zws h
    exact g_ireturn hc rfl rfl rfl (fun _ => ⟨rfl, rfl⟩) h
  replace h := zwp_f h hx11
  by_cases hx12 : a1 = (11 : Int32)
  · replace h := zwp_t h hx12
    refine z_switch (pc' := 209) hc rfl (by rw [hx12]; decide +kernel) ?_
    refine g_aload_n (pc' := 210)  hc rfl rfl rfl rfl ?_
    refine z_getR (pc' := 213)  hc rfl rfl rfl sh_0 rfl rfl ?_
    refine z_virt (as := []) (a := 31) (r := []) hc rfl rfl rfl rfl sh_31 rfl zco_79 rfl rfl rfl ?_
    refine ok_X8_heldBits_31 (zdp hd rfl) (zwp_mono (zwp_bind h) ?_)
    rintro r26 h
    refine z_po (pc' := 216) (st' := [.int r26]) (v := (some (.int r26))) (L' := [(59, none, (I 59)), (60, none, (I 60))]) (K' := []) zco_79 rfl rfl rfl rfl rfl rfl rfl rfl ?_
    replace h := zws h
    exact g_ireturn hc rfl rfl rfl (fun _ => ⟨rfl, rfl⟩) h
  replace h := zwp_f h hx12
  by_cases hx13 : a1 = (12 : Int32)
  · replace h := zwp_t h hx13
    refine z_switch (pc' := 217) hc rfl (by rw [hx13]; decide +kernel) ?_
    refine g_aload_n (pc' := 218)  hc rfl rfl rfl rfl ?_
    refine z_getR (pc' := 221)  hc rfl rfl rfl sh_0 rfl rfl ?_
    refine z_getI (pc' := 224) (v := (I 36 2)) hc rfl rfl rfl sh_36 rfl rfl rfl ?_
    replace h := zws h
    exact g_ireturn hc rfl rfl rfl (fun _ => ⟨rfl, rfl⟩) h
  replace h := zwp_f h hx13
  by_cases hx14 : a1 = (13 : Int32)
  · replace h := zwp_t h hx14
    refine z_switch (pc' := 225) hc rfl (by rw [hx14]; decide +kernel) ?_
    refine g_aload_n (pc' := 226)  hc rfl rfl rfl rfl ?_
    refine z_getR (pc' := 229)  hc rfl rfl rfl sh_0 rfl rfl ?_
    refine z_getI (pc' := 232) (v := (I 36 3)) hc rfl rfl rfl sh_36 rfl rfl rfl ?_
    replace h := zws h
    exact g_ireturn hc rfl rfl rfl (fun _ => ⟨rfl, rfl⟩) h
  replace h := zwp_f h hx14
  by_cases hx15 : a1 = (14 : Int32)
  · replace h := zwp_t h hx15
    refine z_switch (pc' := 233) hc rfl (by rw [hx15]; decide +kernel) ?_
    refine g_aload_n (pc' := 234)  hc rfl rfl rfl rfl ?_
    refine z_getR (pc' := 237)  hc rfl rfl rfl sh_0 rfl rfl ?_
    refine z_getI (pc' := 240) (v := (I 1 1)) hc rfl rfl rfl sh_1 rfl rfl rfl ?_
    replace h := zws h
    exact g_ireturn hc rfl rfl rfl (fun _ => ⟨rfl, rfl⟩) h
  replace h := zwp_f h hx15
  by_cases hx16 : a1 = (15 : Int32)
  · replace h := zwp_t h hx16
    refine z_switch (pc' := 241) hc rfl (by rw [hx16]; decide +kernel) ?_
    refine g_aload_n (pc' := 242)  hc rfl rfl rfl rfl ?_
    refine z_getR (pc' := 245)  hc rfl rfl rfl sh_0 rfl rfl ?_
    refine g_iconst (pc' := 246) (v := (0 : Int32)) hc rfl zki_0 rfl ?_
    refine z_iaload (pc' := 247) (v := (((I 6)) 0)) hc rfl rfl sh_6 (by decide) rfl rfl ?_
    replace h := zws h
    exact g_ireturn hc rfl rfl rfl (fun _ => ⟨rfl, rfl⟩) h
  replace h := zwp_f h hx16
  by_cases hx17 : a1 = (16 : Int32)
  · replace h := zwp_t h hx17
    refine z_switch (pc' := 248) hc rfl (by rw [hx17]; decide +kernel) ?_
    refine g_aload_n (pc' := 249)  hc rfl rfl rfl rfl ?_
    refine z_getR (pc' := 252)  hc rfl rfl rfl sh_0 rfl rfl ?_
    refine g_iconst (pc' := 253) (v := (1 : Int32)) hc rfl zki_1 rfl ?_
    refine z_iaload (pc' := 254) (v := (((I 6)) 1)) hc rfl rfl sh_6 (by decide) rfl rfl ?_
    replace h := zws h
    exact g_ireturn hc rfl rfl rfl (fun _ => ⟨rfl, rfl⟩) h
  replace h := zwp_f h hx17
  by_cases hx18 : a1 = (17 : Int32)
  · replace h := zwp_t h hx18
    refine z_switch (pc' := 255) hc rfl (by rw [hx18]; decide +kernel) ?_
    refine g_aload_n (pc' := 256)  hc rfl rfl rfl rfl ?_
    refine z_getR (pc' := 259)  hc rfl rfl rfl sh_0 rfl rfl ?_
    refine g_iconst (pc' := 260) (v := (2 : Int32)) hc rfl zki_2 rfl ?_
    refine z_iaload (pc' := 261) (v := (((I 6)) 2)) hc rfl rfl sh_6 (by decide) rfl rfl ?_
    replace h := zws h
    exact g_ireturn hc rfl rfl rfl (fun _ => ⟨rfl, rfl⟩) h
  replace h := zwp_f h hx18
  refine z_switch (pc' := 262) hc rfl (zsw_df (told := [(0 : Int32), (1 : Int32), (2 : Int32), (3 : Int32), (4 : Int32), (5 : Int32), (6 : Int32), (7 : Int32), (8 : Int32), (9 : Int32), (10 : Int32), (11 : Int32), (12 : Int32), (13 : Int32), (14 : Int32), (15 : Int32), (16 : Int32), (17 : Int32)]) (by decide +kernel) (by decide) rfl (zne_c hx1 (zne_c hx2 (zne_c hx3 (zne_c hx4 (zne_c hx5 (zne_c hx6 (zne_c hx7 (zne_c hx8 (zne_c hx9 (zne_c hx10 (zne_c hx11 (zne_c hx12 (zne_c hx13 (zne_c hx14 (zne_c hx15 (zne_c hx16 (zne_c hx17 (zne_c hx18 zne_n))))))))))))))))))) ?_
  replace h := zws h
  exact z_throw hc rfl rfl (zdq hd rfl) rfl rfl rfl h
set_option maxRecDepth 4000 in
theorem ok_L_count_0_107_q {I : pI} {J : pJ} {a1 : Int32} {Q : pQ} {d : Nat} (hd : 8 ≤ d) (h : zwp (f_L_count a1 1 (J 107) (I 36 2) (I 36 3) (I 31 3) (I 34) (I 31 0) (I 31 1) (I 33) (J 31 2) (I 19 12) (I 19 3) (I 19 1) (I 24) (I 19 9) (I 19 7) (I 19 0) (I 6) (I 1 1) (I 59) (I 60)) (fun w => match w with | (r, o0, o1, o2) => Q (.inl (some (.int r))) (zS 19 7 I [(59, none, o1), (60, none, o2)] J [(107, none, o0)]))) : pm_call M cost zext d 273 [.ref 0, .int a1, .ref 107] (pm_st 108 (shp 19 7) I J) Q := by
  obtain ⟨d, rfl⟩ := zd1 hd rfl
  have hc := pm_call_m (M := M) (cost := cost) zext_m d
  refine z_in (L := [(59, none, (I 59)), (60, none, (I 60))]) (K := [(107, none, (J 107))]) (ls := [some (.ref 0), some (.int a1), some (.ref 107), none]) zmt_273 zco_273 rfl rfl (zid_a (zid_a zid_n)) (zid_a zid_n) ?_
  delta f_L_count at h
  refine g_aload_n (pc' := 1)  hc rfl rfl rfl rfl ?_
  refine g_iconst (pc' := 2) (v := (0 : Int32)) hc rfl zki_0 rfl ?_
  refine g_aload_n (pc' := 3)  hc rfl rfl rfl rfl ?_
  refine g_iload_n (pc' := 4)  hc rfl rfl rfl ?_
  refine z_virt (as := [.int a1]) (a := 0) (r := [.int (0 : Int32), .ref 107]) hc rfl rfl rfl rfl sh_0 rfl zco_100 rfl rfl rfl ?_
  refine ok_X11_count_0_q (zdp hd rfl) (zwp_mono (zwp_bind h) ?_)
  rintro ⟨(r3 | E4), o1, o2⟩ h
  · refine z_po (pc' := 7) (st' := [.int r3, .int (0 : Int32), .ref 107]) (v := (some (.int r3))) (L' := [(59, none, o1), (60, none, o2)]) (K' := [(107, none, (J 107))]) zco_100 rfl rfl rfl rfl rfl rfl rfl rfl ?_
    refine g_i2l (pc' := 8)  hc rfl rfl ?_
    have hb := (zwp_bnd h).1
    replace h := (zwp_bnd h).2
    refine z_lastore (pc' := 9) (g := (J 107)) (K' := [(107, none, (vp_updL ((J 107)) (0 : Int32).toNatClampNeg r3.toInt64))]) hc rfl rfl sh_107 hb rfl rfl rfl rfl ?_
    refine g_goto hc rfl ?_
    refine g_iconst (pc' := 16) (v := (0 : Int32)) hc rfl zki_0 rfl ?_
    replace h := zws h
    exact g_ireturn hc rfl rfl rfl (fun _ => ⟨rfl, rfl⟩) h
  · by_cases hE : E4 = x_N
    · replace h := zwp_t h hE
      replace h := zws h
      exact z_poh (L' := [(59, none, o1), (60, none, o2)]) (K' := [(107, none, (J 107))]) (zhd1 (e := 9) (pc := 4) rfl hE) rfl rfl rfl rfl rfl rfl rfl rfl h
    replace h := zwp_f h hE
    exact (zwn h).elim
set_option maxRecDepth 4000 in
theorem ok_X11_checkFigure_0_q {I : pI} {J : pJ} {a1 : Int32} {Q : pQ} {d : Nat} (hd : 7 ≤ d) (h : zwp (f_X11_checkFigure a1 (I 19 3)) (fun w => match w with | .inl () => Q (.inl none) (zS 19 7 I [] J []) | .inr E => Q (.inr E) (zS 19 7 I [] J []))) : pm_call M cost zext d 133 [.ref 0, .int a1] (pm_st 108 (shp 19 7) I J) Q := by
  obtain ⟨d, rfl⟩ := zd1 hd rfl
  have hc := pm_call_m (M := M) (cost := cost) zext_m d
  refine z_in (L := []) (K := []) (ls := [some (.ref 0), some (.int a1)]) zmt_133 zco_133 rfl rfl zid_n zid_n ?_
  delta f_X11_checkFigure at h
  refine g_iload_n (pc' := 1)  hc rfl rfl rfl ?_
  refine g_if_lt (pc' := 4) hc rfl rfl (fun hx => ?_) (fun hx => ?_)
  · replace h := zwp_t h hx
    replace h := zws h
    exact z_throw hc rfl rfl (zdq hd rfl) rfl rfl rfl h
  · replace h := zwp_f h hx
    refine g_iload_n (pc' := 5)  hc rfl rfl rfl ?_
    refine g_aload_n (pc' := 6)  hc rfl rfl rfl rfl ?_
    refine z_getR (pc' := 9)  hc rfl rfl rfl sh_0 rfl rfl ?_
    refine z_getI (pc' := 12) (v := (I 19 3)) hc rfl rfl rfl sh_19 rfl rfl rfl ?_
    refine g_icmp_lt (pc' := 15) hc rfl rfl (fun hx => ?_) (fun hx => ?_)
    · replace h := zwp_t h hx
      replace h := zws h
      exact g_return hc rfl rfl (fun _ => ⟨rfl, rfl⟩) h
    · replace h := zwp_f h hx
      replace h := zws h
      exact z_throw hc rfl rfl (zdq hd rfl) rfl rfl rfl h
set_option maxRecDepth 4000 in
theorem ok_X11_figure_0_q {I : pI} {J : pJ} {a1 : Int32} {a2 : Int32} {Q : pQ} {d : Nat} (hd : 8 ≤ d) (h : zwp (f_X11_figure a1 a2 (I 32) (I 31 3) (I 34) (I 31 0) (I 35) (I 33) (I 19 3) (I 21) (I 22)) (fun w => match w with | .inl r => Q (.inl (some (.int r))) (zS 19 7 I [] J []) | .inr E => Q (.inr E) (zS 19 7 I [] J []))) : pm_call M cost zext d 101 [.ref 0, .int a1, .int a2] (pm_st 108 (shp 19 7) I J) Q := by
  obtain ⟨d, rfl⟩ := zd1 hd rfl
  have hc := pm_call_m (M := M) (cost := cost) zext_m d
  refine z_in (L := []) (K := []) (ls := [some (.ref 0), some (.int a1), some (.int a2)]) zmt_101 zco_101 rfl rfl zid_n zid_n ?_
  delta f_X11_figure at h
  refine g_aload_n (pc' := 1)  hc rfl rfl rfl rfl ?_
  refine g_iload_n (pc' := 2)  hc rfl rfl rfl ?_
  refine z_virt (as := [.int a1]) (a := 0) (r := []) hc rfl rfl rfl rfl sh_0 rfl zco_133 rfl rfl rfl ?_
  refine ok_X11_checkFigure_0_q (zdp hd rfl) (zwp_mono (zwp_bind h) ?_)
  rintro (⟨⟩ | E1) h
  · refine z_po (pc' := 5) (st' := []) (v := none) (L' := []) (K' := []) zco_133 rfl rfl rfl rfl rfl rfl rfl rfl ?_
    refine g_iload_n (pc' := 6)  hc rfl rfl rfl ?_
    by_cases hx2 : a2 = (0 : Int32)
    · replace h := zwp_t h hx2
      refine z_switch (pc' := 48) hc rfl (by rw [hx2]; decide +kernel) ?_
      refine g_aload_n (pc' := 49)  hc rfl rfl rfl rfl ?_
      refine z_getR (pc' := 52)  hc rfl rfl rfl sh_0 rfl rfl ?_
      refine z_getR (pc' := 55)  hc rfl rfl rfl sh_31 rfl rfl ?_
      refine g_iload_n (pc' := 56)  hc rfl rfl rfl ?_
      have hb := (zwp_bnd h).1
      replace h := (zwp_bnd h).2
      refine z_iaload (pc' := 57) (v := (((I 32)) a1.toNatClampNeg)) hc rfl rfl sh_32 hb rfl rfl ?_
      replace h := zws h
      exact g_ireturn hc rfl rfl rfl (fun _ => ⟨rfl, rfl⟩) h
    replace h := zwp_f h hx2
    by_cases hx3 : a2 = (1 : Int32)
    · replace h := zwp_t h hx3
      refine z_switch (pc' := 58) hc rfl (by rw [hx3]; decide +kernel) ?_
      refine g_aload_n (pc' := 59)  hc rfl rfl rfl rfl ?_
      refine z_getR (pc' := 62)  hc rfl rfl rfl sh_0 rfl rfl ?_
      refine z_getR (pc' := 65)  hc rfl rfl rfl sh_19 rfl rfl ?_
      refine g_iload_n (pc' := 66)  hc rfl rfl rfl ?_
      have hb := (zwp_bnd h).1
      replace h := (zwp_bnd h).2
      refine z_iaload (pc' := 67) (v := (((I 21)) a1.toNatClampNeg)) hc rfl rfl sh_21 hb rfl rfl ?_
      replace h := zws h
      exact g_ireturn hc rfl rfl rfl (fun _ => ⟨rfl, rfl⟩) h
    replace h := zwp_f h hx3
    by_cases hx4 : a2 = (2 : Int32)
    · replace h := zwp_t h hx4
      refine z_switch (pc' := 68) hc rfl (by rw [hx4]; decide +kernel) ?_
      refine g_aload_n (pc' := 69)  hc rfl rfl rfl rfl ?_
      refine z_getR (pc' := 72)  hc rfl rfl rfl sh_0 rfl rfl ?_
      refine z_getR (pc' := 75)  hc rfl rfl rfl sh_31 rfl rfl ?_
      refine g_iload_n (pc' := 76)  hc rfl rfl rfl ?_
      have hb := (zwp_bnd h).1
      replace h := (zwp_bnd h).2
      refine z_iaload (pc' := 77) (v := (((I 33)) a1.toNatClampNeg)) hc rfl rfl sh_33 hb rfl rfl ?_
      replace h := zws h
      exact g_ireturn hc rfl rfl rfl (fun _ => ⟨rfl, rfl⟩) h
    replace h := zwp_f h hx4
    by_cases hx5 : a2 = (3 : Int32)
    · replace h := zwp_t h hx5
      refine z_switch (pc' := 78) hc rfl (by rw [hx5]; decide +kernel) ?_
      refine g_aload_n (pc' := 79)  hc rfl rfl rfl rfl ?_
      refine z_getR (pc' := 82)  hc rfl rfl rfl sh_0 rfl rfl ?_
      refine z_getR (pc' := 85)  hc rfl rfl rfl sh_31 rfl rfl ?_
      refine g_iload_n (pc' := 86)  hc rfl rfl rfl ?_
      have hb := (zwp_bnd h).1
      replace h := (zwp_bnd h).2
      refine z_iaload (pc' := 87) (v := (((I 34)) a1.toNatClampNeg)) hc rfl rfl sh_34 hb rfl rfl ?_
      replace h := zws h
      exact g_ireturn hc rfl rfl rfl (fun _ => ⟨rfl, rfl⟩) h
    replace h := zwp_f h hx5
    by_cases hx6 : a2 = (4 : Int32)
    · replace h := zwp_t h hx6
      refine z_switch (pc' := 88) hc rfl (by rw [hx6]; decide +kernel) ?_
      refine g_aload_n (pc' := 89)  hc rfl rfl rfl rfl ?_
      refine z_getR (pc' := 92)  hc rfl rfl rfl sh_0 rfl rfl ?_
      refine g_iload_n (pc' := 93)  hc rfl rfl rfl ?_
      refine g_aload_n (pc' := 94)  hc rfl rfl rfl rfl ?_
      refine z_getR (pc' := 97)  hc rfl rfl rfl sh_0 rfl rfl ?_
      refine z_getI (pc' := 100) (v := (I 31 0)) hc rfl rfl rfl sh_31 rfl rfl rfl ?_
      refine g_aload_n (pc' := 101)  hc rfl rfl rfl rfl ?_
      refine z_getR (pc' := 104)  hc rfl rfl rfl sh_0 rfl rfl ?_
      refine z_getR (pc' := 107)  hc rfl rfl rfl sh_31 rfl rfl ?_
      refine g_iload_n (pc' := 108)  hc rfl rfl rfl ?_
      have hb := (zwp_bnd h).1
      replace h := (zwp_bnd h).2
      refine z_iaload (pc' := 109) (v := (((I 35)) a1.toNatClampNeg)) hc rfl rfl sh_35 hb rfl rfl ?_
      refine g_iadd (pc' := 110)  hc rfl rfl ?_
      refine z_virt (as := [.int a1, .int (((I 31 0)) + (((I 35)) a1.toNatClampNeg))]) (a := 19) (r := []) hc rfl rfl rfl rfl sh_19 rfl zco_24 rfl rfl rfl ?_
      refine ok_X3_stepOf_19 (zdp hd rfl) (zwp_mono (zwp_bind h) ?_)
      rintro r9 h
      refine z_po (pc' := 113) (st' := [.int r9]) (v := (some (.int r9))) (L' := []) (K' := []) zco_24 rfl rfl rfl rfl rfl rfl rfl rfl ?_
      replace h := zws h
      exact g_ireturn hc rfl rfl rfl (fun _ => ⟨rfl, rfl⟩) h
    replace h := zwp_f h hx6
    by_cases hx7 : a2 = (5 : Int32)
    · replace h := zwp_t h hx7
      refine z_switch (pc' := 114) hc rfl (by rw [hx7]; decide +kernel) ?_
      refine g_aload_n (pc' := 115)  hc rfl rfl rfl rfl ?_
      refine z_getR (pc' := 118)  hc rfl rfl rfl sh_0 rfl rfl ?_
      refine z_getR (pc' := 121)  hc rfl rfl rfl sh_31 rfl rfl ?_
      refine g_iload_n (pc' := 122)  hc rfl rfl rfl ?_
      have hb := (zwp_bnd h).1
      replace h := (zwp_bnd h).2
      refine z_iaload (pc' := 123) (v := (((I 35)) a1.toNatClampNeg)) hc rfl rfl sh_35 hb rfl rfl ?_
      replace h := zws h
      exact g_ireturn hc rfl rfl rfl (fun _ => ⟨rfl, rfl⟩) h
    replace h := zwp_f h hx7
    by_cases hx8 : a2 = (6 : Int32)
    · replace h := zwp_t h hx8
      refine z_switch (pc' := 124) hc rfl (by rw [hx8]; decide +kernel) ?_
      refine g_aload_n (pc' := 125)  hc rfl rfl rfl rfl ?_
      refine z_getR (pc' := 128)  hc rfl rfl rfl sh_0 rfl rfl ?_
      refine g_iload_n (pc' := 129)  hc rfl rfl rfl ?_
      refine z_virt (as := [.int a1]) (a := 31) (r := []) hc rfl rfl rfl rfl sh_31 rfl zco_73 rfl rfl rfl ?_
      refine ok_X8_othersWith_31 (zdp hd rfl) (zwp_mono (zwp_bind h) ?_)
      rintro r10 h
      refine z_po (pc' := 132) (st' := [.int r10]) (v := (some (.int r10))) (L' := []) (K' := []) zco_73 rfl rfl rfl rfl rfl rfl rfl rfl ?_
      replace h := zws h
      exact g_ireturn hc rfl rfl rfl (fun _ => ⟨rfl, rfl⟩) h
    replace h := zwp_f h hx8
    refine z_switch (pc' := 133) hc rfl (zsw_df (told := [(0 : Int32), (1 : Int32), (2 : Int32), (3 : Int32), (4 : Int32), (5 : Int32), (6 : Int32)]) (by decide +kernel) (by decide) rfl (zne_c hx2 (zne_c hx3 (zne_c hx4 (zne_c hx5 (zne_c hx6 (zne_c hx7 (zne_c hx8 zne_n)))))))) ?_
    replace h := zws h
    exact z_throw hc rfl rfl (zdq hd rfl) rfl rfl rfl h
  · replace h := zws h
    exact z_pox (L' := []) (K' := []) rfl rfl rfl rfl rfl rfl rfl h
set_option maxRecDepth 4000 in
theorem ok_L_figure_0_107_q {I : pI} {J : pJ} {a1 : Int32} {a2 : Int32} {Q : pQ} {d : Nat} (hd : 9 ≤ d) (h : zwp (f_L_figure a1 a2 1 (J 107) (I 32) (I 31 3) (I 34) (I 31 0) (I 35) (I 33) (I 19 3) (I 21) (I 22)) (fun w => match w with | (r, o0) => Q (.inl (some (.int r))) (zS 19 7 I [] J [(107, none, o0)]))) : pm_call M cost zext d 274 [.ref 0, .int a1, .int a2, .ref 107] (pm_st 108 (shp 19 7) I J) Q := by
  obtain ⟨d, rfl⟩ := zd1 hd rfl
  have hc := pm_call_m (M := M) (cost := cost) zext_m d
  refine z_in (L := []) (K := [(107, none, (J 107))]) (ls := [some (.ref 0), some (.int a1), some (.int a2), some (.ref 107), none]) zmt_274 zco_274 rfl rfl zid_n (zid_a zid_n) ?_
  delta f_L_figure at h
  refine g_aload_n (pc' := 1)  hc rfl rfl rfl rfl ?_
  refine g_iconst (pc' := 2) (v := (0 : Int32)) hc rfl zki_0 rfl ?_
  refine g_aload_n (pc' := 3)  hc rfl rfl rfl rfl ?_
  refine g_iload_n (pc' := 4)  hc rfl rfl rfl ?_
  refine g_iload_n (pc' := 5)  hc rfl rfl rfl ?_
  refine z_virt (as := [.int a1, .int a2]) (a := 0) (r := [.int (0 : Int32), .ref 107]) hc rfl rfl rfl rfl sh_0 rfl zco_101 rfl rfl rfl ?_
  refine ok_X11_figure_0_q (zdp hd rfl) (zwp_mono (zwp_bind h) ?_)
  rintro (r1 | E2) h
  · refine z_po (pc' := 8) (st' := [.int r1, .int (0 : Int32), .ref 107]) (v := (some (.int r1))) (L' := []) (K' := [(107, none, (J 107))]) zco_101 rfl rfl rfl rfl rfl rfl rfl rfl ?_
    refine g_i2l (pc' := 9)  hc rfl rfl ?_
    have hb := (zwp_bnd h).1
    replace h := (zwp_bnd h).2
    refine z_lastore (pc' := 10) (g := (J 107)) (K' := [(107, none, (vp_updL ((J 107)) (0 : Int32).toNatClampNeg r1.toInt64))]) hc rfl rfl sh_107 hb rfl rfl rfl rfl ?_
    refine g_goto hc rfl ?_
    refine g_iconst (pc' := 18) (v := (0 : Int32)) hc rfl zki_0 rfl ?_
    replace h := zws h
    exact g_ireturn hc rfl rfl rfl (fun _ => ⟨rfl, rfl⟩) h
  · by_cases hE : E2 = x_N
    · replace h := zwp_t h hE
      replace h := zws h
      exact z_poh (L' := []) (K' := [(107, none, (J 107))]) (zhd1 (e := 10) (pc := 5) rfl hE) rfl rfl rfl rfl rfl rfl rfl rfl h
    replace h := zwp_f h hE
    exact (zwn h).elim
set_option maxRecDepth 4000 in
theorem ok_X11_checkCell_0_q {I : pI} {J : pJ} {a1 : Int32} {Q : pQ} {d : Nat} (hd : 7 ≤ d) (h : zwp (f_X11_checkCell a1 (I 19 1) (I 19 0)) (fun w => match w with | .inl () => Q (.inl none) (zS 19 7 I [] J []) | .inr E => Q (.inr E) (zS 19 7 I [] J []))) : pm_call M cost zext d 134 [.ref 0, .int a1] (pm_st 108 (shp 19 7) I J) Q := by
  obtain ⟨d, rfl⟩ := zd1 hd rfl
  have hc := pm_call_m (M := M) (cost := cost) zext_m d
  refine z_in (L := []) (K := []) (ls := [some (.ref 0), some (.int a1)]) zmt_134 zco_134 rfl rfl zid_n zid_n ?_
  delta f_X11_checkCell at h
  refine g_iload_n (pc' := 1)  hc rfl rfl rfl ?_
  refine g_if_lt (pc' := 4) hc rfl rfl (fun hx => ?_) (fun hx => ?_)
  · replace h := zwp_t h hx
    replace h := zws h
    exact z_throw hc rfl rfl (zdq hd rfl) rfl rfl rfl h
  · replace h := zwp_f h hx
    refine g_iload_n (pc' := 5)  hc rfl rfl rfl ?_
    refine g_aload_n (pc' := 6)  hc rfl rfl rfl rfl ?_
    refine z_getR (pc' := 9)  hc rfl rfl rfl sh_0 rfl rfl ?_
    refine z_virt (as := []) (a := 19) (r := [.int a1]) hc rfl rfl rfl rfl sh_19 rfl zco_21 rfl rfl rfl ?_
    refine ok_X3_cells_19 (zdp hd rfl) (zwp_mono (zwp_bind h) ?_)
    rintro r1 h
    refine z_po (pc' := 12) (st' := [.int r1, .int a1]) (v := (some (.int r1))) (L' := []) (K' := []) zco_21 rfl rfl rfl rfl rfl rfl rfl rfl ?_
    refine g_icmp_lt (pc' := 15) hc rfl rfl (fun hx => ?_) (fun hx => ?_)
    · replace h := zwp_t h hx
      replace h := zws h
      exact g_return hc rfl rfl (fun _ => ⟨rfl, rfl⟩) h
    · replace h := zwp_f h hx
      replace h := zws h
      exact z_throw hc rfl rfl (zdq hd rfl) rfl rfl rfl h
set_option maxRecDepth 4000 in
theorem ok_X10_seenFrom_58_19_31 {p q : Nat} {I : pI} {J : pJ} {a3 : Int32} {Q : pQ} {d : Nat} (hd : 3 ≤ d) (h : zwp (f_X10_seenFrom a3 (I 19 1) (I 19 0) (I 32) (I 31 3) (J 31 2)) (fun r => Q (.inl (some (.int r))) (zS p q I [] J []))) : pm_call M cost zext d 95 [.ref 58, .ref 19, .ref 31, .int a3] (pm_st 108 (shp p q) I J) Q := by
  obtain ⟨d, rfl⟩ := zd1 hd rfl
  have hc := pm_call_m (M := M) (cost := cost) zext_m d
  refine z_in (L := []) (K := []) (ls := [some (.ref 58), some (.ref 19), some (.ref 31), some (.int a3), none, none, none, none]) zmt_95 zco_95 rfl rfl zid_n zid_n ?_
  delta f_X10_seenFrom at h
  refine g_aload_n (pc' := 1)  hc rfl rfl rfl rfl ?_
  refine g_iload_n (pc' := 2)  hc rfl rfl rfl ?_
  refine z_virt (as := [.int a3]) (a := 31) (r := []) hc rfl rfl rfl rfl sh_31 rfl zco_72 rfl rfl rfl ?_
  refine ok_X8_figuresAt_31 (zdp hd rfl) (zwp_mono (zwp_bind h) ?_)
  rintro r1 h
  refine z_po (pc' := 5) (st' := [.int r1]) (v := (some (.int r1))) (L' := []) (K' := []) zco_72 rfl rfl rfl rfl rfl rfl rfl rfl ?_
  refine g_istore (pc' := 7) (ls1 := [some (.ref 58), some (.ref 19), some (.ref 31), some (.int a3), some (.int r1), none, none, none]) hc rfl (zlt rfl) rfl rfl ?_
  refine g_iconst (pc' := 8) (v := (1 : Int32)) hc rfl zki_1 rfl ?_
  refine g_istore (pc' := 10) (ls1 := [some (.ref 58), some (.ref 19), some (.ref 31), some (.int a3), some (.int r1), some (.int (1 : Int32)), none, none]) hc rfl (zlt rfl) rfl rfl ?_
  refine zjn (G := (fun (y6 : Int32) => ∀ z7 : Option Value, znl z7 = true → ∀ z8 : Option Value, znl z8 = true → ∀ z9 : Option Value, znl z9 = true → pm_ev C_X10_seenFrom (d + 1) (pm_call M cost zext d) cost (false, false) 108 0 0 Q 83 [some (.ref 58), some (.ref 19), some (.ref 31), some (.int a3), some (.int y6), z7, z8, z9] [] 0 0 (zS p q I [] J []))) (zwp_bind h) ?_ (fun h => ?_)
  · rintro y6 h z7 hz7 z8 hz8 z9 hz9
    refine g_iload (pc' := 85)  hc rfl rfl rfl ?_
    replace h := zws h
    exact g_ireturn hc rfl rfl rfl (fun _ => ⟨rfl, rfl⟩) h
  refine zitr_ev (G := (fun (g : Int32 × Int32) => match g with | (x2, x3) => ∀ z4 : Option Value, znl z4 = true → ∀ z5 : Option Value, znl z5 = true → pm_ev C_X10_seenFrom (d + 1) (pm_call M cost zext d) cost (false, false) 108 0 0 Q 10 [some (.ref 58), some (.ref 19), some (.ref 31), some (.int a3), some (.int x2), some (.int x3), z4, z5] [] 0 0 (zS p q I [] J []))) ?_ zFU (r1, (1 : Int32)) h none rfl none rfl
  rintro ⟨x2, x3⟩ h z4 hz4 z5 hz5
  refine g_iload (pc' := 12)  hc rfl rfl rfl ?_
  refine g_iconst (pc' := 13) (v := (4 : Int32)) hc rfl zki_4 rfl ?_
  refine g_icmp_gt (pc' := 16) hc rfl rfl (fun hx => ?_) (fun hx => ?_)
  · replace h := zwp_t h hx
    replace h := zwp_r h
    exact h (some (.int x3)) rfl z4 hz4 z5 hz5
  · replace h := zwp_f h hx
    refine g_aload_n (pc' := 17)  hc rfl rfl rfl rfl ?_
    refine g_iload_n (pc' := 18)  hc rfl rfl rfl ?_
    refine g_iload (pc' := 20)  hc rfl rfl rfl ?_
    refine z_virt (as := [.int a3, .int x3]) (a := 19) (r := []) hc rfl rfl rfl rfl sh_19 rfl zco_28 rfl rfl rfl ?_
    refine ok_X3_beside_19 (zdp hd rfl) (zwp_mono (zwp_bind h) ?_)
    rintro r10 h
    refine z_po (pc' := 23) (st' := [.int r10]) (v := (some (.int r10))) (L' := []) (K' := []) zco_28 rfl rfl rfl rfl rfl rfl rfl rfl ?_
    refine g_istore (pc' := 25) (ls1 := [some (.ref 58), some (.ref 19), some (.ref 31), some (.int a3), some (.int x2), some (.int x3), some (.int r10), z5]) hc rfl (zlt rfl) rfl rfl ?_
    refine g_iconst (pc' := 26) (v := (0 : Int32)) hc rfl zki_0 rfl ?_
    refine g_istore (pc' := 28) (ls1 := [some (.ref 58), some (.ref 19), some (.ref 31), some (.int a3), some (.int x2), some (.int x3), some (.int r10), some (.int (0 : Int32))]) hc rfl (zlt rfl) rfl rfl ?_
    refine zjn (G := (fun (y14 : Int32) => ∀ z15 : Option Value, znl z15 = true → ∀ z16 : Option Value, znl z16 = true → pm_ev C_X10_seenFrom (d + 1) (pm_call M cost zext d) cost (false, false) 108 0 0 Q 77 [some (.ref 58), some (.ref 19), some (.ref 31), some (.int a3), some (.int y14), some (.int x3), z15, z16] [] 0 0 (zS p q I [] J []))) (zwp_bind h) ?_ (fun h => ?_)
    · rintro y14 h z15 hz15 z16 hz16
      refine g_iinc (pc' := 80) (ls1 := [some (.ref 58), some (.ref 19), some (.ref 31), some (.int a3), some (.int y14), some (.int (x3 + (1 : Int32))), z15, z16]) hc rfl rfl zki_1 (zlt rfl) rfl rfl ?_
      refine g_goto hc rfl ?_
      replace h := zwp_l h
      exact h z15 hz15 z16 hz16
    refine zitr_ev (G := (fun (g : Int32 × Int32 × Int32) => match g with | (x11, x12, x13) => pm_ev C_X10_seenFrom (d + 1) (pm_call M cost zext d) cost (false, false) 108 0 0 Q 28 [some (.ref 58), some (.ref 19), some (.ref 31), some (.int a3), some (.int x11), some (.int x3), some (.int x12), some (.int x13)] [] 0 0 (zS p q I [] J []))) ?_ zFU (x2, r10, (0 : Int32)) h
    rintro ⟨x11, x12, x13⟩ h
    refine g_iload (pc' := 30)  hc rfl rfl rfl ?_
    refine g_bipush (pc' := 32) (v := (36 : Int32)) hc rfl zkb_36 rfl ?_
    refine g_icmp_ge (pc' := 35) hc rfl rfl (fun hx => ?_) (fun hx => ?_)
    · replace h := zwp_t h hx
      replace h := zwp_r h
      exact h (some (.int x12)) rfl (some (.int x13)) rfl
    · replace h := zwp_f h hx
      refine g_iload (pc' := 37)  hc rfl rfl rfl ?_
      refine g_iconst (pc' := 38) (v := (-1 : Int32)) hc rfl zki_m1 rfl ?_
      refine g_icmp_eq (pc' := 41) hc rfl rfl (fun hx => ?_) (fun hx => ?_)
      · replace h := zwp_t h hx
        replace h := zwp_r h
        exact h (some (.int x12)) rfl (some (.int x13)) rfl
      · replace h := zwp_f h hx
        refine g_aload_n (pc' := 42)  hc rfl rfl rfl rfl ?_
        refine g_iload (pc' := 44)  hc rfl rfl rfl ?_
        refine z_virt (as := [.int x12]) (a := 31) (r := []) hc rfl rfl rfl rfl sh_31 rfl zco_71 rfl rfl rfl ?_
        refine ok_X8_isWall_31 (zdp hd rfl) (zwp_mono (zwp_bind h) ?_)
        rintro r17 h
        refine z_po (pc' := 47) (st' := [.int r17]) (v := (some (.int r17))) (L' := []) (K' := []) zco_71 rfl rfl rfl rfl rfl rfl rfl rfl ?_
        refine g_if_ne (pc' := 50) hc rfl rfl (fun hx => ?_) (fun hx => ?_)
        · replace h := zwp_f h hx
          replace h := zwp_r h
          exact h (some (.int x12)) rfl (some (.int x13)) rfl
        · replace h := zwp_t h hx
          refine g_iload (pc' := 52)  hc rfl rfl rfl ?_
          refine g_aload_n (pc' := 53)  hc rfl rfl rfl rfl ?_
          refine g_iload (pc' := 55)  hc rfl rfl rfl ?_
          refine z_virt (as := [.int x12]) (a := 31) (r := [.int x11]) hc rfl rfl rfl rfl sh_31 rfl zco_72 rfl rfl rfl ?_
          refine ok_X8_figuresAt_31 (zdp hd rfl) (zwp_mono (zwp_bind h) ?_)
          rintro r18 h
          refine z_po (pc' := 58) (st' := [.int r18, .int x11]) (v := (some (.int r18))) (L' := []) (K' := []) zco_72 rfl rfl rfl rfl rfl rfl rfl rfl ?_
          refine g_ior (pc' := 59)  hc rfl rfl ?_
          refine g_istore (pc' := 61) (ls1 := [some (.ref 58), some (.ref 19), some (.ref 31), some (.int a3), some (.int (x11 ||| r18)), some (.int x3), some (.int x12), some (.int x13)]) hc rfl (zlt rfl) rfl rfl ?_
          refine g_aload_n (pc' := 62)  hc rfl rfl rfl rfl ?_
          refine g_iload (pc' := 64)  hc rfl rfl rfl ?_
          refine g_iload (pc' := 66)  hc rfl rfl rfl ?_
          refine z_virt (as := [.int x12, .int x3]) (a := 19) (r := []) hc rfl rfl rfl rfl sh_19 rfl zco_28 rfl rfl rfl ?_
          refine ok_X3_beside_19 (zdp hd rfl) (zwp_mono (zwp_bind h) ?_)
          rintro r19 h
          refine z_po (pc' := 69) (st' := [.int r19]) (v := (some (.int r19))) (L' := []) (K' := []) zco_28 rfl rfl rfl rfl rfl rfl rfl rfl ?_
          refine g_istore (pc' := 71) (ls1 := [some (.ref 58), some (.ref 19), some (.ref 31), some (.int a3), some (.int (x11 ||| r18)), some (.int x3), some (.int r19), some (.int x13)]) hc rfl (zlt rfl) rfl rfl ?_
          refine g_iinc (pc' := 74) (ls1 := [some (.ref 58), some (.ref 19), some (.ref 31), some (.int a3), some (.int (x11 ||| r18)), some (.int x3), some (.int r19), some (.int (x13 + (1 : Int32)))]) hc rfl rfl zki_1 (zlt rfl) rfl rfl ?_
          refine g_goto hc rfl ?_
          replace h := zwp_l h
          exact h
set_option maxRecDepth 4000 in
theorem ok_X11_cell_0_q {I : pI} {J : pJ} {a1 : Int32} {a2 : Int32} {Q : pQ} {d : Nat} (hd : 8 ≤ d) (h : zwp (f_X11_cell a1 a2 (I 32) (I 31 3) (J 31 2) (I 19 1) (I 23) (I 19 7) (I 19 0)) (fun w => match w with | .inl r => Q (.inl (some (.int r))) (zS 19 7 I [] J []) | .inr E => Q (.inr E) (zS 19 7 I [] J []))) : pm_call M cost zext d 102 [.ref 0, .int a1, .int a2] (pm_st 108 (shp 19 7) I J) Q := by
  obtain ⟨d, rfl⟩ := zd1 hd rfl
  have hc := pm_call_m (M := M) (cost := cost) zext_m d
  refine z_in (L := []) (K := []) (ls := [some (.ref 0), some (.int a1), some (.int a2)]) zmt_102 zco_102 rfl rfl zid_n zid_n ?_
  delta f_X11_cell at h
  refine g_aload_n (pc' := 1)  hc rfl rfl rfl rfl ?_
  refine g_iload_n (pc' := 2)  hc rfl rfl rfl ?_
  refine z_virt (as := [.int a1]) (a := 0) (r := []) hc rfl rfl rfl rfl sh_0 rfl zco_134 rfl rfl rfl ?_
  refine ok_X11_checkCell_0_q (zdp hd rfl) (zwp_mono (zwp_bind h) ?_)
  rintro (⟨⟩ | E1) h
  · refine z_po (pc' := 5) (st' := []) (v := none) (L' := []) (K' := []) zco_134 rfl rfl rfl rfl rfl rfl rfl rfl ?_
    refine g_iload_n (pc' := 6)  hc rfl rfl rfl ?_
    by_cases hx2 : a2 = (0 : Int32)
    · replace h := zwp_t h hx2
      refine z_switch (pc' := 36) hc rfl (by rw [hx2]; decide +kernel) ?_
      refine g_aload_n (pc' := 37)  hc rfl rfl rfl rfl ?_
      refine z_getR (pc' := 40)  hc rfl rfl rfl sh_0 rfl rfl ?_
      refine g_iload_n (pc' := 41)  hc rfl rfl rfl ?_
      refine z_virt (as := [.int a1]) (a := 31) (r := []) hc rfl rfl rfl rfl sh_31 rfl zco_71 rfl rfl rfl ?_
      refine ok_X8_isWall_31 (zdp hd rfl) (zwp_mono (zwp_bind h) ?_)
      rintro r6 h
      refine z_po (pc' := 44) (st' := [.int r6]) (v := (some (.int r6))) (L' := []) (K' := []) zco_71 rfl rfl rfl rfl rfl rfl rfl rfl ?_
      refine g_if_eq (pc' := 47) hc rfl rfl (fun hx => ?_) (fun hx => ?_)
      · replace h := zwp_t h hx
        refine g_iconst (pc' := 52) (v := (0 : Int32)) hc rfl zki_0 rfl ?_
        replace h := zws h
        exact g_ireturn hc rfl rfl rfl (fun _ => ⟨rfl, rfl⟩) h
      · replace h := zwp_f h hx
        refine g_iconst (pc' := 48) (v := (1 : Int32)) hc rfl zki_1 rfl ?_
        refine g_goto hc rfl ?_
        replace h := zws h
        exact g_ireturn hc rfl rfl rfl (fun _ => ⟨rfl, rfl⟩) h
    replace h := zwp_f h hx2
    by_cases hx3 : a2 = (1 : Int32)
    · replace h := zwp_t h hx3
      refine z_switch (pc' := 53) hc rfl (by rw [hx3]; decide +kernel) ?_
      refine g_aload_n (pc' := 54)  hc rfl rfl rfl rfl ?_
      refine z_getR (pc' := 57)  hc rfl rfl rfl sh_0 rfl rfl ?_
      refine g_iload_n (pc' := 58)  hc rfl rfl rfl ?_
      refine z_virt (as := [.int a1]) (a := 31) (r := []) hc rfl rfl rfl rfl sh_31 rfl zco_72 rfl rfl rfl ?_
      refine ok_X8_figuresAt_31 (zdp hd rfl) (zwp_mono (zwp_bind h) ?_)
      rintro r7 h
      refine z_po (pc' := 61) (st' := [.int r7]) (v := (some (.int r7))) (L' := []) (K' := []) zco_72 rfl rfl rfl rfl rfl rfl rfl rfl ?_
      replace h := zws h
      exact g_ireturn hc rfl rfl rfl (fun _ => ⟨rfl, rfl⟩) h
    replace h := zwp_f h hx3
    by_cases hx4 : a2 = (2 : Int32)
    · replace h := zwp_t h hx4
      refine z_switch (pc' := 62) hc rfl (by rw [hx4]; decide +kernel) ?_
      refine g_aload_n (pc' := 63)  hc rfl rfl rfl rfl ?_
      refine z_getR (pc' := 66)  hc rfl rfl rfl sh_0 rfl rfl ?_
      refine g_iload_n (pc' := 67)  hc rfl rfl rfl ?_
      refine z_virt (as := [.int a1]) (a := 19) (r := []) hc rfl rfl rfl rfl sh_19 rfl zco_25 rfl rfl rfl ?_
      refine ok_X3_seatsAt_19 (zdp hd rfl) (zwp_mono (zwp_bind h) ?_)
      rintro r8 h
      refine z_po (pc' := 70) (st' := [.int r8]) (v := (some (.int r8))) (L' := []) (K' := []) zco_25 rfl rfl rfl rfl rfl rfl rfl rfl ?_
      replace h := zws h
      exact g_ireturn hc rfl rfl rfl (fun _ => ⟨rfl, rfl⟩) h
    replace h := zwp_f h hx4
    by_cases hx5 : a2 = (3 : Int32)
    · replace h := zwp_t h hx5
      refine z_switch (pc' := 71) hc rfl (by rw [hx5]; decide +kernel) ?_
      refine g_aload_n (pc' := 72)  hc rfl rfl rfl rfl ?_
      refine z_getR (pc' := 75)  hc rfl rfl rfl sh_0 rfl rfl ?_
      refine g_aload_n (pc' := 76)  hc rfl rfl rfl rfl ?_
      refine z_getR (pc' := 79)  hc rfl rfl rfl sh_0 rfl rfl ?_
      refine g_aload_n (pc' := 80)  hc rfl rfl rfl rfl ?_
      refine z_getR (pc' := 83)  hc rfl rfl rfl sh_0 rfl rfl ?_
      refine g_iload_n (pc' := 84)  hc rfl rfl rfl ?_
      refine z_virt (as := [.ref 19, .ref 31, .int a1]) (a := 58) (r := []) hc rfl rfl rfl rfl sh_58 rfl zco_95 rfl rfl rfl ?_
      refine ok_X10_seenFrom_58_19_31 (zdp hd rfl) (zwp_mono (zwp_bind h) ?_)
      rintro r9 h
      refine z_po (pc' := 87) (st' := [.int r9]) (v := (some (.int r9))) (L' := []) (K' := []) zco_95 rfl rfl rfl rfl rfl rfl rfl rfl ?_
      replace h := zws h
      exact g_ireturn hc rfl rfl rfl (fun _ => ⟨rfl, rfl⟩) h
    replace h := zwp_f h hx5
    refine z_switch (pc' := 88) hc rfl (zsw_df (told := [(0 : Int32), (1 : Int32), (2 : Int32), (3 : Int32)]) (by decide +kernel) (by decide) rfl (zne_c hx2 (zne_c hx3 (zne_c hx4 (zne_c hx5 zne_n))))) ?_
    replace h := zws h
    exact z_throw hc rfl rfl (zdq hd rfl) rfl rfl rfl h
  · replace h := zws h
    exact z_pox (L' := []) (K' := []) rfl rfl rfl rfl rfl rfl rfl h
set_option maxRecDepth 4000 in
theorem ok_L_cell_0_107_q {I : pI} {J : pJ} {a1 : Int32} {a2 : Int32} {Q : pQ} {d : Nat} (hd : 9 ≤ d) (h : zwp (f_L_cell a1 a2 1 (J 107) (I 32) (I 31 3) (J 31 2) (I 19 1) (I 23) (I 19 7) (I 19 0)) (fun w => match w with | (r, o0) => Q (.inl (some (.int r))) (zS 19 7 I [] J [(107, none, o0)]))) : pm_call M cost zext d 275 [.ref 0, .int a1, .int a2, .ref 107] (pm_st 108 (shp 19 7) I J) Q := by
  obtain ⟨d, rfl⟩ := zd1 hd rfl
  have hc := pm_call_m (M := M) (cost := cost) zext_m d
  refine z_in (L := []) (K := [(107, none, (J 107))]) (ls := [some (.ref 0), some (.int a1), some (.int a2), some (.ref 107), none]) zmt_275 zco_275 rfl rfl zid_n (zid_a zid_n) ?_
  delta f_L_cell at h
  refine g_aload_n (pc' := 1)  hc rfl rfl rfl rfl ?_
  refine g_iconst (pc' := 2) (v := (0 : Int32)) hc rfl zki_0 rfl ?_
  refine g_aload_n (pc' := 3)  hc rfl rfl rfl rfl ?_
  refine g_iload_n (pc' := 4)  hc rfl rfl rfl ?_
  refine g_iload_n (pc' := 5)  hc rfl rfl rfl ?_
  refine z_virt (as := [.int a1, .int a2]) (a := 0) (r := [.int (0 : Int32), .ref 107]) hc rfl rfl rfl rfl sh_0 rfl zco_102 rfl rfl rfl ?_
  refine ok_X11_cell_0_q (zdp hd rfl) (zwp_mono (zwp_bind h) ?_)
  rintro (r1 | E2) h
  · refine z_po (pc' := 8) (st' := [.int r1, .int (0 : Int32), .ref 107]) (v := (some (.int r1))) (L' := []) (K' := [(107, none, (J 107))]) zco_102 rfl rfl rfl rfl rfl rfl rfl rfl ?_
    refine g_i2l (pc' := 9)  hc rfl rfl ?_
    have hb := (zwp_bnd h).1
    replace h := (zwp_bnd h).2
    refine z_lastore (pc' := 10) (g := (J 107)) (K' := [(107, none, (vp_updL ((J 107)) (0 : Int32).toNatClampNeg r1.toInt64))]) hc rfl rfl sh_107 hb rfl rfl rfl rfl ?_
    refine g_goto hc rfl ?_
    refine g_iconst (pc' := 18) (v := (0 : Int32)) hc rfl zki_0 rfl ?_
    replace h := zws h
    exact g_ireturn hc rfl rfl rfl (fun _ => ⟨rfl, rfl⟩) h
  · by_cases hE : E2 = x_N
    · replace h := zwp_t h hE
      replace h := zws h
      exact z_poh (L' := []) (K' := [(107, none, (J 107))]) (zhd1 (e := 10) (pc := 5) rfl hE) rfl rfl rfl rfl rfl rfl rfl rfl h
    replace h := zwp_f h hE
    exact (zwn h).elim
set_option maxRecDepth 4000 in
theorem ok_X11_stop_0_q {I : pI} {J : pJ} {a1 : Int32} {a2 : Int32} {Q : pQ} {d : Nat} (hd : 8 ≤ d) (h : zwp (f_X11_stop a1 a2 (I 36 2) (I 36 1) (I 37) (I 32) (I 34) (I 31 0) (I 31 1) (I 33) (J 31 2) (I 19 12) (I 19 3) (I 24) (I 19 9) (I 6)) (fun w => match w with | (.inl r, o0, o1, o2, o3, o4, o5) => Q (.inl (some (.int r))) (zS 19 7 I [(6, none, o5), (31, some 1, fun _ => o4), (34, none, o3), (36, some 1, fun _ => o1), (36, some 2, fun _ => o0), (37, none, o2)] J []) | (.inr E, o0, o1, o2, o3, o4, o5) => Q (.inr E) (zS 19 7 I [(6, none, o5), (31, some 1, fun _ => o4), (34, none, o3), (36, some 1, fun _ => o1), (36, some 2, fun _ => o0), (37, none, o2)] J []))) : pm_call M cost zext d 104 [.ref 0, .int a1, .int a2] (pm_st 108 (shp 19 7) I J) Q := by
  obtain ⟨d, rfl⟩ := zd1 hd rfl
  have hc := pm_call_m (M := M) (cost := cost) zext_m d
  refine z_in (L := [(6, none, (I 6)), (31, some 1, fun _ => (I 31 1)), (34, none, (I 34)), (36, some 1, fun _ => (I 36 1)), (36, some 2, fun _ => (I 36 2)), (37, none, (I 37))]) (K := []) (ls := [some (.ref 0), some (.int a1), some (.int a2)]) zmt_104 zco_104 rfl rfl (zid_a (zid_s (zid_a (zid_s (zid_s (zid_a zid_n)))))) zid_n ?_
  delta f_X11_stop at h
  refine g_aload_n (pc' := 1)  hc rfl rfl rfl rfl ?_
  refine g_iload_n (pc' := 2)  hc rfl rfl rfl ?_
  refine z_virt (as := [.int a1]) (a := 0) (r := []) hc rfl rfl rfl rfl sh_0 rfl zco_133 rfl rfl rfl ?_
  refine ok_X11_checkFigure_0_q (zdp hd rfl) (zwp_mono (zwp_bind h) ?_)
  rintro (⟨⟩ | E1) h
  · refine z_po (pc' := 5) (st' := []) (v := none) (L' := [(6, none, (I 6)), (31, some 1, fun _ => (I 31 1)), (34, none, (I 34)), (36, some 1, fun _ => (I 36 1)), (36, some 2, fun _ => (I 36 2)), (37, none, (I 37))]) (K' := []) zco_133 rfl rfl rfl rfl rfl rfl rfl rfl ?_
    refine g_aload_n (pc' := 6)  hc rfl rfl rfl rfl ?_
    refine z_getR (pc' := 9)  hc rfl rfl rfl sh_0 rfl rfl ?_
    refine g_aload_n (pc' := 10)  hc rfl rfl rfl rfl ?_
    refine z_getR (pc' := 13)  hc rfl rfl rfl sh_0 rfl rfl ?_
    refine z_getI (pc' := 16) (v := (I 31 0)) hc rfl rfl rfl sh_31 rfl rfl rfl ?_
    refine z_virt (as := [.int (I 31 0)]) (a := 19) (r := []) hc rfl rfl rfl rfl sh_19 rfl zco_23 rfl rfl rfl ?_
    refine ok_X3_isDull_19 (zdp hd rfl) (zwp_mono (zwp_bind h) ?_)
    rintro r2 h
    refine z_po (pc' := 19) (st' := [.int r2]) (v := (some (.int r2))) (L' := [(6, none, (I 6)), (31, some 1, fun _ => (I 31 1)), (34, none, (I 34)), (36, some 1, fun _ => (I 36 1)), (36, some 2, fun _ => (I 36 2)), (37, none, (I 37))]) (K' := []) zco_23 rfl rfl rfl rfl rfl rfl rfl rfl ?_
    refine g_if_ne (pc' := 22) hc rfl rfl (fun hx => ?_) (fun hx => ?_)
    · replace h := zwp_f h hx
      refine g_aload_n (pc' := 34)  hc rfl rfl rfl rfl ?_
      refine z_virt (as := []) (a := 0) (r := []) hc rfl rfl rfl rfl sh_0 rfl zco_137 rfl rfl rfl ?_
      refine ok_X11_refuseAct_0 (zdp hd rfl) (zwp_mono (zwp_bind h) ?_)
      rintro ⟨r4, o3⟩ h
      refine z_po (pc' := 37) (st' := [.int r4]) (v := (some (.int r4))) (L' := [(6, none, o3), (31, some 1, fun _ => (I 31 1)), (34, none, (I 34)), (36, some 1, fun _ => (I 36 1)), (36, some 2, fun _ => (I 36 2)), (37, none, (I 37))]) (K' := []) zco_137 rfl rfl rfl rfl rfl rfl rfl rfl ?_
      replace h := zws h
      exact g_ireturn hc rfl rfl rfl (fun _ => ⟨rfl, rfl⟩) h
    · replace h := zwp_t h hx
      refine g_iload_n (pc' := 23)  hc rfl rfl rfl ?_
      refine g_iconst (pc' := 24) (v := (1 : Int32)) hc rfl zki_1 rfl ?_
      refine g_icmp_lt (pc' := 27) hc rfl rfl (fun hx => ?_) (fun hx => ?_)
      · replace h := zwp_t h hx
        refine g_aload_n (pc' := 34)  hc rfl rfl rfl rfl ?_
        refine z_virt (as := []) (a := 0) (r := []) hc rfl rfl rfl rfl sh_0 rfl zco_137 rfl rfl rfl ?_
        refine ok_X11_refuseAct_0 (zdp hd rfl) (zwp_mono (zwp_bind h) ?_)
        rintro ⟨r6, o5⟩ h
        refine z_po (pc' := 37) (st' := [.int r6]) (v := (some (.int r6))) (L' := [(6, none, o5), (31, some 1, fun _ => (I 31 1)), (34, none, (I 34)), (36, some 1, fun _ => (I 36 1)), (36, some 2, fun _ => (I 36 2)), (37, none, (I 37))]) (K' := []) zco_137 rfl rfl rfl rfl rfl rfl rfl rfl ?_
        replace h := zws h
        exact g_ireturn hc rfl rfl rfl (fun _ => ⟨rfl, rfl⟩) h
      · replace h := zwp_f h hx
        refine g_iload_n (pc' := 28)  hc rfl rfl rfl ?_
        refine g_bipush (pc' := 30) (v := (9 : Int32)) hc rfl zkb_9 rfl ?_
        refine g_icmp_le (pc' := 33) hc rfl rfl (fun hx => ?_) (fun hx => ?_)
        · replace h := zwp_t h hx
          refine g_aload_n (pc' := 39)  hc rfl rfl rfl rfl ?_
          refine z_getR (pc' := 42)  hc rfl rfl rfl sh_0 rfl rfl ?_
          refine g_aload_n (pc' := 43)  hc rfl rfl rfl rfl ?_
          refine z_getR (pc' := 46)  hc rfl rfl rfl sh_0 rfl rfl ?_
          refine z_virt (as := [.ref 31]) (a := 36) (r := []) hc rfl rfl rfl rfl sh_36 rfl zco_3 rfl rfl rfl ?_
          refine ok_X0_keep_36_31 (zdp hd rfl) (zwp_mono (zwp_bind h) ?_)
          rintro ⟨o7, o8, o9⟩ h
          refine z_po (pc' := 49) (st' := []) (v := none) (L' := [(6, none, (I 6)), (31, some 1, fun _ => (I 31 1)), (34, none, (I 34)), (36, some 1, fun _ => o8), (36, some 2, fun _ => o7), (37, none, o9)]) (K' := []) zco_3 rfl rfl rfl rfl rfl rfl rfl rfl ?_
          refine g_aload_n (pc' := 50)  hc rfl rfl rfl rfl ?_
          refine z_getR (pc' := 53)  hc rfl rfl rfl sh_0 rfl rfl ?_
          refine z_getR (pc' := 56)  hc rfl rfl rfl sh_31 rfl rfl ?_
          refine g_iload_n (pc' := 57)  hc rfl rfl rfl ?_
          refine g_iload_n (pc' := 58)  hc rfl rfl rfl ?_
          have hb := (zwp_bnd h).1
          replace h := (zwp_bnd h).2
          refine z_iastore (pc' := 59) (g := (I 34)) (L' := [(6, none, (I 6)), (31, some 1, fun _ => (I 31 1)), (34, none, (upd ((I 34)) a1.toNatClampNeg a2)), (36, some 1, fun _ => o8), (36, some 2, fun _ => o7), (37, none, o9)]) hc rfl rfl sh_34 hb rfl rfl rfl rfl ?_
          refine g_aload_n (pc' := 60)  hc rfl rfl rfl rfl ?_
          refine g_iconst (pc' := 61) (v := (1 : Int32)) hc rfl zki_1 rfl ?_
          refine z_virt (as := [.int (1 : Int32)]) (a := 0) (r := []) hc rfl rfl rfl rfl sh_0 rfl zco_138 rfl rfl rfl ?_
          refine ok_X11_pay_0 (zdp hd rfl) (zwp_mono (zwp_bind h) ?_)
          rintro o10 h
          refine z_po (pc' := 64) (st' := []) (v := none) (L' := [(6, none, (I 6)), (31, some 1, fun _ => o10), (34, none, (upd ((I 34)) a1.toNatClampNeg a2)), (36, some 1, fun _ => o8), (36, some 2, fun _ => o7), (37, none, o9)]) (K' := []) zco_138 rfl rfl rfl rfl rfl rfl rfl rfl ?_
          refine g_aload_n (pc' := 65)  hc rfl rfl rfl rfl ?_
          refine z_getR (pc' := 68)  hc rfl rfl rfl sh_0 rfl rfl ?_
          refine z_getI (pc' := 71) (v := o10) hc rfl rfl rfl sh_31 rfl rfl rfl ?_
          replace h := zws h
          exact g_ireturn hc rfl rfl rfl (fun _ => ⟨rfl, rfl⟩) h
        · replace h := zwp_f h hx
          refine g_aload_n (pc' := 34)  hc rfl rfl rfl rfl ?_
          refine z_virt (as := []) (a := 0) (r := []) hc rfl rfl rfl rfl sh_0 rfl zco_137 rfl rfl rfl ?_
          refine ok_X11_refuseAct_0 (zdp hd rfl) (zwp_mono (zwp_bind h) ?_)
          rintro ⟨r12, o11⟩ h
          refine z_po (pc' := 37) (st' := [.int r12]) (v := (some (.int r12))) (L' := [(6, none, o11), (31, some 1, fun _ => (I 31 1)), (34, none, (I 34)), (36, some 1, fun _ => (I 36 1)), (36, some 2, fun _ => (I 36 2)), (37, none, (I 37))]) (K' := []) zco_137 rfl rfl rfl rfl rfl rfl rfl rfl ?_
          replace h := zws h
          exact g_ireturn hc rfl rfl rfl (fun _ => ⟨rfl, rfl⟩) h
  · replace h := zws h
    exact z_pox (L' := [(6, none, (I 6)), (31, some 1, fun _ => (I 31 1)), (34, none, (I 34)), (36, some 1, fun _ => (I 36 1)), (36, some 2, fun _ => (I 36 2)), (37, none, (I 37))]) (K' := []) rfl rfl rfl rfl rfl rfl rfl h
set_option maxRecDepth 4000 in
theorem ok_L_stop_0_107_q {I : pI} {J : pJ} {a1 : Int32} {a2 : Int32} {Q : pQ} {d : Nat} (hd : 9 ≤ d) (h : zwp (f_L_stop a1 a2 1 (J 107) (I 36 2) (I 36 1) (I 37) (I 32) (I 34) (I 31 0) (I 31 1) (I 33) (J 31 2) (I 19 12) (I 19 3) (I 24) (I 19 9) (I 6)) (fun w => match w with | (r, o0, o1, o2, o3, o4, o5, o6) => Q (.inl (some (.int r))) (zS 19 7 I [(6, none, o6), (31, some 1, fun _ => o5), (34, none, o4), (36, some 1, fun _ => o2), (36, some 2, fun _ => o1), (37, none, o3)] J [(107, none, o0)]))) : pm_call M cost zext d 276 [.ref 0, .int a1, .int a2, .ref 107] (pm_st 108 (shp 19 7) I J) Q := by
  obtain ⟨d, rfl⟩ := zd1 hd rfl
  have hc := pm_call_m (M := M) (cost := cost) zext_m d
  refine z_in (L := [(6, none, (I 6)), (31, some 1, fun _ => (I 31 1)), (34, none, (I 34)), (36, some 1, fun _ => (I 36 1)), (36, some 2, fun _ => (I 36 2)), (37, none, (I 37))]) (K := [(107, none, (J 107))]) (ls := [some (.ref 0), some (.int a1), some (.int a2), some (.ref 107), none]) zmt_276 zco_276 rfl rfl (zid_a (zid_s (zid_a (zid_s (zid_s (zid_a zid_n)))))) (zid_a zid_n) ?_
  delta f_L_stop at h
  refine g_aload_n (pc' := 1)  hc rfl rfl rfl rfl ?_
  refine g_iconst (pc' := 2) (v := (0 : Int32)) hc rfl zki_0 rfl ?_
  refine g_aload_n (pc' := 3)  hc rfl rfl rfl rfl ?_
  refine g_iload_n (pc' := 4)  hc rfl rfl rfl ?_
  refine g_iload_n (pc' := 5)  hc rfl rfl rfl ?_
  refine z_virt (as := [.int a1, .int a2]) (a := 0) (r := [.int (0 : Int32), .ref 107]) hc rfl rfl rfl rfl sh_0 rfl zco_104 rfl rfl rfl ?_
  refine ok_X11_stop_0_q (zdp hd rfl) (zwp_mono (zwp_bind h) ?_)
  rintro ⟨(r7 | E8), o1, o2, o3, o4, o5, o6⟩ h
  · refine z_po (pc' := 8) (st' := [.int r7, .int (0 : Int32), .ref 107]) (v := (some (.int r7))) (L' := [(6, none, o6), (31, some 1, fun _ => o5), (34, none, o4), (36, some 1, fun _ => o2), (36, some 2, fun _ => o1), (37, none, o3)]) (K' := [(107, none, (J 107))]) zco_104 rfl rfl rfl rfl rfl rfl rfl rfl ?_
    refine g_i2l (pc' := 9)  hc rfl rfl ?_
    have hb := (zwp_bnd h).1
    replace h := (zwp_bnd h).2
    refine z_lastore (pc' := 10) (g := (J 107)) (K' := [(107, none, (vp_updL ((J 107)) (0 : Int32).toNatClampNeg r7.toInt64))]) hc rfl rfl sh_107 hb rfl rfl rfl rfl ?_
    refine g_goto hc rfl ?_
    refine g_iconst (pc' := 18) (v := (0 : Int32)) hc rfl zki_0 rfl ?_
    replace h := zws h
    exact g_ireturn hc rfl rfl rfl (fun _ => ⟨rfl, rfl⟩) h
  · by_cases hE : E8 = x_N
    · replace h := zwp_t h hE
      replace h := zws h
      exact z_poh (L' := [(6, none, o6), (31, some 1, fun _ => o5), (34, none, o4), (36, some 1, fun _ => o2), (36, some 2, fun _ => o1), (37, none, o3)]) (K' := [(107, none, (J 107))]) (zhd1 (e := 10) (pc := 5) rfl hE) rfl rfl rfl rfl rfl rfl rfl rfl h
    replace h := zwp_f h hE
    exact (zwn h).elim
set_option maxRecDepth 4000 in
theorem ok_X11_lift_0_q {I : pI} {J : pJ} {a1 : Int32} {a2 : Int32} {Q : pQ} {d : Nat} (hd : 8 ≤ d) (h : zwp (f_X11_lift a1 a2 (I 36 2) (I 36 1) (I 37) (I 32) (I 34) (I 31 0) (I 31 1) (I 33) (J 31 2) (I 19 12) (I 19 3) (I 19 1) (I 24) (I 19 9) (I 19 0) (I 6)) (fun w => match w with | (.inl r, o0, o1, o2, o3, o4, o5, o6) => Q (.inl (some (.int r))) (zS 19 7 I [(6, none, o6), (31, some 1, fun _ => o5), (32, none, o3), (34, none, o4), (36, some 1, fun _ => o1), (36, some 2, fun _ => o0), (37, none, o2)] J []) | (.inr E, o0, o1, o2, o3, o4, o5, o6) => Q (.inr E) (zS 19 7 I [(6, none, o6), (31, some 1, fun _ => o5), (32, none, o3), (34, none, o4), (36, some 1, fun _ => o1), (36, some 2, fun _ => o0), (37, none, o2)] J []))) : pm_call M cost zext d 105 [.ref 0, .int a1, .int a2] (pm_st 108 (shp 19 7) I J) Q := by
  obtain ⟨d, rfl⟩ := zd1 hd rfl
  have hc := pm_call_m (M := M) (cost := cost) zext_m d
  refine z_in (L := [(6, none, (I 6)), (31, some 1, fun _ => (I 31 1)), (32, none, (I 32)), (34, none, (I 34)), (36, some 1, fun _ => (I 36 1)), (36, some 2, fun _ => (I 36 2)), (37, none, (I 37))]) (K := []) (ls := [some (.ref 0), some (.int a1), some (.int a2), none]) zmt_105 zco_105 rfl rfl (zid_a (zid_s (zid_a (zid_a (zid_s (zid_s (zid_a zid_n))))))) zid_n ?_
  delta f_X11_lift at h
  refine g_aload_n (pc' := 1)  hc rfl rfl rfl rfl ?_
  refine g_iload_n (pc' := 2)  hc rfl rfl rfl ?_
  refine z_virt (as := [.int a1]) (a := 0) (r := []) hc rfl rfl rfl rfl sh_0 rfl zco_133 rfl rfl rfl ?_
  refine ok_X11_checkFigure_0_q (zdp hd rfl) (zwp_mono (zwp_bind h) ?_)
  rintro (⟨⟩ | E1) h
  · refine z_po (pc' := 5) (st' := []) (v := none) (L' := [(6, none, (I 6)), (31, some 1, fun _ => (I 31 1)), (32, none, (I 32)), (34, none, (I 34)), (36, some 1, fun _ => (I 36 1)), (36, some 2, fun _ => (I 36 2)), (37, none, (I 37))]) (K' := []) zco_133 rfl rfl rfl rfl rfl rfl rfl rfl ?_
    refine g_aload_n (pc' := 6)  hc rfl rfl rfl rfl ?_
    refine g_iload_n (pc' := 7)  hc rfl rfl rfl ?_
    refine z_virt (as := [.int a2]) (a := 0) (r := []) hc rfl rfl rfl rfl sh_0 rfl zco_134 rfl rfl rfl ?_
    refine ok_X11_checkCell_0_q (zdp hd rfl) (zwp_mono (zwp_bind h) ?_)
    rintro (⟨⟩ | E2) h
    · refine z_po (pc' := 10) (st' := []) (v := none) (L' := [(6, none, (I 6)), (31, some 1, fun _ => (I 31 1)), (32, none, (I 32)), (34, none, (I 34)), (36, some 1, fun _ => (I 36 1)), (36, some 2, fun _ => (I 36 2)), (37, none, (I 37))]) (K' := []) zco_134 rfl rfl rfl rfl rfl rfl rfl rfl ?_
      refine g_aload_n (pc' := 11)  hc rfl rfl rfl rfl ?_
      refine z_getR (pc' := 14)  hc rfl rfl rfl sh_0 rfl rfl ?_
      refine z_getR (pc' := 17)  hc rfl rfl rfl sh_31 rfl rfl ?_
      refine g_iload_n (pc' := 18)  hc rfl rfl rfl ?_
      have hb := (zwp_bnd h).1
      replace h := (zwp_bnd h).2
      refine z_iaload (pc' := 19) (v := (((I 32)) a1.toNatClampNeg)) hc rfl rfl sh_32 hb rfl rfl ?_
      refine g_istore_n (pc' := 20) (ls1 := [some (.ref 0), some (.int a1), some (.int a2), some (.int (((I 32)) a1.toNatClampNeg))]) hc rfl (zlt rfl) rfl rfl ?_
      refine g_aload_n (pc' := 21)  hc rfl rfl rfl rfl ?_
      refine z_getR (pc' := 24)  hc rfl rfl rfl sh_0 rfl rfl ?_
      refine g_aload_n (pc' := 25)  hc rfl rfl rfl rfl ?_
      refine z_getR (pc' := 28)  hc rfl rfl rfl sh_0 rfl rfl ?_
      refine z_getI (pc' := 31) (v := (I 31 0)) hc rfl rfl rfl sh_31 rfl rfl rfl ?_
      refine z_virt (as := [.int (I 31 0)]) (a := 19) (r := []) hc rfl rfl rfl rfl sh_19 rfl zco_23 rfl rfl rfl ?_
      refine ok_X3_isDull_19 (zdp hd rfl) (zwp_mono (zwp_bind h) ?_)
      rintro r3 h
      refine z_po (pc' := 34) (st' := [.int r3]) (v := (some (.int r3))) (L' := [(6, none, (I 6)), (31, some 1, fun _ => (I 31 1)), (32, none, (I 32)), (34, none, (I 34)), (36, some 1, fun _ => (I 36 1)), (36, some 2, fun _ => (I 36 2)), (37, none, (I 37))]) (K' := []) zco_23 rfl rfl rfl rfl rfl rfl rfl rfl ?_
      refine g_if_ne (pc' := 37) hc rfl rfl (fun hx => ?_) (fun hx => ?_)
      · replace h := zwp_f h hx
        refine g_aload_n (pc' := 54)  hc rfl rfl rfl rfl ?_
        refine z_virt (as := []) (a := 0) (r := []) hc rfl rfl rfl rfl sh_0 rfl zco_137 rfl rfl rfl ?_
        refine ok_X11_refuseAct_0 (zdp hd rfl) (zwp_mono (zwp_bind h) ?_)
        rintro ⟨r5, o4⟩ h
        refine z_po (pc' := 57) (st' := [.int r5]) (v := (some (.int r5))) (L' := [(6, none, o4), (31, some 1, fun _ => (I 31 1)), (32, none, (I 32)), (34, none, (I 34)), (36, some 1, fun _ => (I 36 1)), (36, some 2, fun _ => (I 36 2)), (37, none, (I 37))]) (K' := []) zco_137 rfl rfl rfl rfl rfl rfl rfl rfl ?_
        replace h := zws h
        exact g_ireturn hc rfl rfl rfl (fun _ => ⟨rfl, rfl⟩) h
      · replace h := zwp_t h hx
        refine g_iload_n (pc' := 38)  hc rfl rfl rfl ?_
        refine g_iload_n (pc' := 39)  hc rfl rfl rfl ?_
        refine g_icmp_eq (pc' := 42) hc rfl rfl (fun hx => ?_) (fun hx => ?_)
        · replace h := zwp_t h hx
          refine g_aload_n (pc' := 54)  hc rfl rfl rfl rfl ?_
          refine z_virt (as := []) (a := 0) (r := []) hc rfl rfl rfl rfl sh_0 rfl zco_137 rfl rfl rfl ?_
          refine ok_X11_refuseAct_0 (zdp hd rfl) (zwp_mono (zwp_bind h) ?_)
          rintro ⟨r7, o6⟩ h
          refine z_po (pc' := 57) (st' := [.int r7]) (v := (some (.int r7))) (L' := [(6, none, o6), (31, some 1, fun _ => (I 31 1)), (32, none, (I 32)), (34, none, (I 34)), (36, some 1, fun _ => (I 36 1)), (36, some 2, fun _ => (I 36 2)), (37, none, (I 37))]) (K' := []) zco_137 rfl rfl rfl rfl rfl rfl rfl rfl ?_
          replace h := zws h
          exact g_ireturn hc rfl rfl rfl (fun _ => ⟨rfl, rfl⟩) h
        · replace h := zwp_f h hx
          refine g_aload_n (pc' := 43)  hc rfl rfl rfl rfl ?_
          refine z_getR (pc' := 46)  hc rfl rfl rfl sh_0 rfl rfl ?_
          refine g_iload_n (pc' := 47)  hc rfl rfl rfl ?_
          refine z_virt (as := [.int a2]) (a := 31) (r := []) hc rfl rfl rfl rfl sh_31 rfl zco_71 rfl rfl rfl ?_
          refine ok_X8_isWall_31 (zdp hd rfl) (zwp_mono (zwp_bind h) ?_)
          rintro r8 h
          refine z_po (pc' := 50) (st' := [.int r8]) (v := (some (.int r8))) (L' := [(6, none, (I 6)), (31, some 1, fun _ => (I 31 1)), (32, none, (I 32)), (34, none, (I 34)), (36, some 1, fun _ => (I 36 1)), (36, some 2, fun _ => (I 36 2)), (37, none, (I 37))]) (K' := []) zco_71 rfl rfl rfl rfl rfl rfl rfl rfl ?_
          refine g_if_eq (pc' := 53) hc rfl rfl (fun hx => ?_) (fun hx => ?_)
          · replace h := zwp_t h hx
            refine g_aload_n (pc' := 59)  hc rfl rfl rfl rfl ?_
            refine z_getR (pc' := 62)  hc rfl rfl rfl sh_0 rfl rfl ?_
            refine g_aload_n (pc' := 63)  hc rfl rfl rfl rfl ?_
            refine z_getR (pc' := 66)  hc rfl rfl rfl sh_0 rfl rfl ?_
            refine z_virt (as := [.ref 31]) (a := 36) (r := []) hc rfl rfl rfl rfl sh_36 rfl zco_3 rfl rfl rfl ?_
            refine ok_X0_keep_36_31 (zdp hd rfl) (zwp_mono (zwp_bind h) ?_)
            rintro ⟨o9, o10, o11⟩ h
            refine z_po (pc' := 69) (st' := []) (v := none) (L' := [(6, none, (I 6)), (31, some 1, fun _ => (I 31 1)), (32, none, (I 32)), (34, none, (I 34)), (36, some 1, fun _ => o10), (36, some 2, fun _ => o9), (37, none, o11)]) (K' := []) zco_3 rfl rfl rfl rfl rfl rfl rfl rfl ?_
            refine g_aload_n (pc' := 70)  hc rfl rfl rfl rfl ?_
            refine z_getR (pc' := 73)  hc rfl rfl rfl sh_0 rfl rfl ?_
            refine z_getR (pc' := 76)  hc rfl rfl rfl sh_31 rfl rfl ?_
            refine g_iload_n (pc' := 77)  hc rfl rfl rfl ?_
            refine g_iload_n (pc' := 78)  hc rfl rfl rfl ?_
            have hb := (zwp_bnd h).1
            replace h := (zwp_bnd h).2
            refine z_iastore (pc' := 79) (g := (I 32)) (L' := [(6, none, (I 6)), (31, some 1, fun _ => (I 31 1)), (32, none, (upd ((I 32)) a1.toNatClampNeg a2)), (34, none, (I 34)), (36, some 1, fun _ => o10), (36, some 2, fun _ => o9), (37, none, o11)]) hc rfl rfl sh_32 hb rfl rfl rfl rfl ?_
            refine g_aload_n (pc' := 80)  hc rfl rfl rfl rfl ?_
            refine z_getR (pc' := 83)  hc rfl rfl rfl sh_0 rfl rfl ?_
            refine z_getR (pc' := 86)  hc rfl rfl rfl sh_31 rfl rfl ?_
            refine g_iload_n (pc' := 87)  hc rfl rfl rfl ?_
            refine g_iconst (pc' := 88) (v := (0 : Int32)) hc rfl zki_0 rfl ?_
            have hb := (zwp_bnd h).1
            replace h := (zwp_bnd h).2
            refine z_iastore (pc' := 89) (g := (I 34)) (L' := [(6, none, (I 6)), (31, some 1, fun _ => (I 31 1)), (32, none, (upd ((I 32)) a1.toNatClampNeg a2)), (34, none, (upd ((I 34)) a1.toNatClampNeg (0 : Int32))), (36, some 1, fun _ => o10), (36, some 2, fun _ => o9), (37, none, o11)]) hc rfl rfl sh_34 hb rfl rfl rfl rfl ?_
            refine g_aload_n (pc' := 90)  hc rfl rfl rfl rfl ?_
            refine g_iconst (pc' := 91) (v := (3 : Int32)) hc rfl zki_3 rfl ?_
            refine z_virt (as := [.int (3 : Int32)]) (a := 0) (r := []) hc rfl rfl rfl rfl sh_0 rfl zco_138 rfl rfl rfl ?_
            refine ok_X11_pay_0 (zdp hd rfl) (zwp_mono (zwp_bind h) ?_)
            rintro o12 h
            refine z_po (pc' := 94) (st' := []) (v := none) (L' := [(6, none, (I 6)), (31, some 1, fun _ => o12), (32, none, (upd ((I 32)) a1.toNatClampNeg a2)), (34, none, (upd ((I 34)) a1.toNatClampNeg (0 : Int32))), (36, some 1, fun _ => o10), (36, some 2, fun _ => o9), (37, none, o11)]) (K' := []) zco_138 rfl rfl rfl rfl rfl rfl rfl rfl ?_
            refine g_iload_n (pc' := 95)  hc rfl rfl rfl ?_
            replace h := zws h
            exact g_ireturn hc rfl rfl rfl (fun _ => ⟨rfl, rfl⟩) h
          · replace h := zwp_f h hx
            refine g_aload_n (pc' := 54)  hc rfl rfl rfl rfl ?_
            refine z_virt (as := []) (a := 0) (r := []) hc rfl rfl rfl rfl sh_0 rfl zco_137 rfl rfl rfl ?_
            refine ok_X11_refuseAct_0 (zdp hd rfl) (zwp_mono (zwp_bind h) ?_)
            rintro ⟨r14, o13⟩ h
            refine z_po (pc' := 57) (st' := [.int r14]) (v := (some (.int r14))) (L' := [(6, none, o13), (31, some 1, fun _ => (I 31 1)), (32, none, (I 32)), (34, none, (I 34)), (36, some 1, fun _ => (I 36 1)), (36, some 2, fun _ => (I 36 2)), (37, none, (I 37))]) (K' := []) zco_137 rfl rfl rfl rfl rfl rfl rfl rfl ?_
            replace h := zws h
            exact g_ireturn hc rfl rfl rfl (fun _ => ⟨rfl, rfl⟩) h
    · replace h := zws h
      exact z_pox (L' := [(6, none, (I 6)), (31, some 1, fun _ => (I 31 1)), (32, none, (I 32)), (34, none, (I 34)), (36, some 1, fun _ => (I 36 1)), (36, some 2, fun _ => (I 36 2)), (37, none, (I 37))]) (K' := []) rfl rfl rfl rfl rfl rfl rfl h
  · replace h := zws h
    exact z_pox (L' := [(6, none, (I 6)), (31, some 1, fun _ => (I 31 1)), (32, none, (I 32)), (34, none, (I 34)), (36, some 1, fun _ => (I 36 1)), (36, some 2, fun _ => (I 36 2)), (37, none, (I 37))]) (K' := []) rfl rfl rfl rfl rfl rfl rfl h
set_option maxRecDepth 4000 in
theorem ok_L_lift_0_107_q {I : pI} {J : pJ} {a1 : Int32} {a2 : Int32} {Q : pQ} {d : Nat} (hd : 9 ≤ d) (h : zwp (f_L_lift a1 a2 1 (J 107) (I 36 2) (I 36 1) (I 37) (I 32) (I 34) (I 31 0) (I 31 1) (I 33) (J 31 2) (I 19 12) (I 19 3) (I 19 1) (I 24) (I 19 9) (I 19 0) (I 6)) (fun w => match w with | (r, o0, o1, o2, o3, o4, o5, o6, o7) => Q (.inl (some (.int r))) (zS 19 7 I [(6, none, o7), (31, some 1, fun _ => o6), (32, none, o4), (34, none, o5), (36, some 1, fun _ => o2), (36, some 2, fun _ => o1), (37, none, o3)] J [(107, none, o0)]))) : pm_call M cost zext d 277 [.ref 0, .int a1, .int a2, .ref 107] (pm_st 108 (shp 19 7) I J) Q := by
  obtain ⟨d, rfl⟩ := zd1 hd rfl
  have hc := pm_call_m (M := M) (cost := cost) zext_m d
  refine z_in (L := [(6, none, (I 6)), (31, some 1, fun _ => (I 31 1)), (32, none, (I 32)), (34, none, (I 34)), (36, some 1, fun _ => (I 36 1)), (36, some 2, fun _ => (I 36 2)), (37, none, (I 37))]) (K := [(107, none, (J 107))]) (ls := [some (.ref 0), some (.int a1), some (.int a2), some (.ref 107), none]) zmt_277 zco_277 rfl rfl (zid_a (zid_s (zid_a (zid_a (zid_s (zid_s (zid_a zid_n))))))) (zid_a zid_n) ?_
  delta f_L_lift at h
  refine g_aload_n (pc' := 1)  hc rfl rfl rfl rfl ?_
  refine g_iconst (pc' := 2) (v := (0 : Int32)) hc rfl zki_0 rfl ?_
  refine g_aload_n (pc' := 3)  hc rfl rfl rfl rfl ?_
  refine g_iload_n (pc' := 4)  hc rfl rfl rfl ?_
  refine g_iload_n (pc' := 5)  hc rfl rfl rfl ?_
  refine z_virt (as := [.int a1, .int a2]) (a := 0) (r := [.int (0 : Int32), .ref 107]) hc rfl rfl rfl rfl sh_0 rfl zco_105 rfl rfl rfl ?_
  refine ok_X11_lift_0_q (zdp hd rfl) (zwp_mono (zwp_bind h) ?_)
  rintro ⟨(r8 | E9), o1, o2, o3, o4, o5, o6, o7⟩ h
  · refine z_po (pc' := 8) (st' := [.int r8, .int (0 : Int32), .ref 107]) (v := (some (.int r8))) (L' := [(6, none, o7), (31, some 1, fun _ => o6), (32, none, o4), (34, none, o5), (36, some 1, fun _ => o2), (36, some 2, fun _ => o1), (37, none, o3)]) (K' := [(107, none, (J 107))]) zco_105 rfl rfl rfl rfl rfl rfl rfl rfl ?_
    refine g_i2l (pc' := 9)  hc rfl rfl ?_
    have hb := (zwp_bnd h).1
    replace h := (zwp_bnd h).2
    refine z_lastore (pc' := 10) (g := (J 107)) (K' := [(107, none, (vp_updL ((J 107)) (0 : Int32).toNatClampNeg r8.toInt64))]) hc rfl rfl sh_107 hb rfl rfl rfl rfl ?_
    refine g_goto hc rfl ?_
    refine g_iconst (pc' := 18) (v := (0 : Int32)) hc rfl zki_0 rfl ?_
    replace h := zws h
    exact g_ireturn hc rfl rfl rfl (fun _ => ⟨rfl, rfl⟩) h
  · by_cases hE : E9 = x_N
    · replace h := zwp_t h hE
      replace h := zws h
      exact z_poh (L' := [(6, none, o7), (31, some 1, fun _ => o6), (32, none, o4), (34, none, o5), (36, some 1, fun _ => o2), (36, some 2, fun _ => o1), (37, none, o3)]) (K' := [(107, none, (J 107))]) (zhd1 (e := 10) (pc := 5) rfl hE) rfl rfl rfl rfl rfl rfl rfl rfl h
    replace h := zwp_f h hE
    exact (zwn h).elim
set_option maxRecDepth 4000 in
theorem ok_X11_brush_0_q {I : pI} {J : pJ} {a1 : Int32} {Q : pQ} {d : Nat} (hd : 8 ≤ d) (h : zwp (f_X11_brush a1 (I 36 2) (I 36 1) (I 37) (I 32) (I 34) (I 31 0) (I 31 1) (I 33) (J 31 2) (I 19 3) (I 6)) (fun w => match w with | (.inl r, o0, o1, o2, o3, o4) => Q (.inl (some (.int r))) (zS 19 7 I [(6, none, o4), (33, none, o3), (36, some 1, fun _ => o1), (36, some 2, fun _ => o0), (37, none, o2)] J []) | (.inr E, o0, o1, o2, o3, o4) => Q (.inr E) (zS 19 7 I [(6, none, o4), (33, none, o3), (36, some 1, fun _ => o1), (36, some 2, fun _ => o0), (37, none, o2)] J []))) : pm_call M cost zext d 106 [.ref 0, .int a1] (pm_st 108 (shp 19 7) I J) Q := by
  obtain ⟨d, rfl⟩ := zd1 hd rfl
  have hc := pm_call_m (M := M) (cost := cost) zext_m d
  refine z_in (L := [(6, none, (I 6)), (33, none, (I 33)), (36, some 1, fun _ => (I 36 1)), (36, some 2, fun _ => (I 36 2)), (37, none, (I 37))]) (K := []) (ls := [some (.ref 0), some (.int a1), none]) zmt_106 zco_106 rfl rfl (zid_a (zid_a (zid_s (zid_s (zid_a zid_n))))) zid_n ?_
  delta f_X11_brush at h
  refine g_aload_n (pc' := 1)  hc rfl rfl rfl rfl ?_
  refine g_iload_n (pc' := 2)  hc rfl rfl rfl ?_
  refine z_virt (as := [.int a1]) (a := 0) (r := []) hc rfl rfl rfl rfl sh_0 rfl zco_133 rfl rfl rfl ?_
  refine ok_X11_checkFigure_0_q (zdp hd rfl) (zwp_mono (zwp_bind h) ?_)
  rintro (⟨⟩ | E1) h
  · refine z_po (pc' := 5) (st' := []) (v := none) (L' := [(6, none, (I 6)), (33, none, (I 33)), (36, some 1, fun _ => (I 36 1)), (36, some 2, fun _ => (I 36 2)), (37, none, (I 37))]) (K' := []) zco_133 rfl rfl rfl rfl rfl rfl rfl rfl ?_
    refine g_aload_n (pc' := 6)  hc rfl rfl rfl rfl ?_
    refine z_getR (pc' := 9)  hc rfl rfl rfl sh_0 rfl rfl ?_
    refine z_getR (pc' := 12)  hc rfl rfl rfl sh_31 rfl rfl ?_
    refine g_iload_n (pc' := 13)  hc rfl rfl rfl ?_
    have hb := (zwp_bnd h).1
    replace h := (zwp_bnd h).2
    refine z_iaload (pc' := 14) (v := (((I 33)) a1.toNatClampNeg)) hc rfl rfl sh_33 hb rfl rfl ?_
    refine g_istore_n (pc' := 15) (ls1 := [some (.ref 0), some (.int a1), some (.int (((I 33)) a1.toNatClampNeg))]) hc rfl (zlt rfl) rfl rfl ?_
    refine g_iload_n (pc' := 16)  hc rfl rfl rfl ?_
    refine g_if_ne (pc' := 19) hc rfl rfl (fun hx => ?_) (fun hx => ?_)
    · replace h := zwp_f h hx
      refine g_aload_n (pc' := 25)  hc rfl rfl rfl rfl ?_
      refine z_getR (pc' := 28)  hc rfl rfl rfl sh_0 rfl rfl ?_
      refine g_aload_n (pc' := 29)  hc rfl rfl rfl rfl ?_
      refine z_getR (pc' := 32)  hc rfl rfl rfl sh_0 rfl rfl ?_
      refine z_virt (as := [.ref 31]) (a := 36) (r := []) hc rfl rfl rfl rfl sh_36 rfl zco_3 rfl rfl rfl ?_
      refine ok_X0_keep_36_31 (zdp hd rfl) (zwp_mono (zwp_bind h) ?_)
      rintro ⟨o2, o3, o4⟩ h
      refine z_po (pc' := 35) (st' := []) (v := none) (L' := [(6, none, (I 6)), (33, none, (I 33)), (36, some 1, fun _ => o3), (36, some 2, fun _ => o2), (37, none, o4)]) (K' := []) zco_3 rfl rfl rfl rfl rfl rfl rfl rfl ?_
      refine g_aload_n (pc' := 36)  hc rfl rfl rfl rfl ?_
      refine z_getR (pc' := 39)  hc rfl rfl rfl sh_0 rfl rfl ?_
      refine z_getR (pc' := 42)  hc rfl rfl rfl sh_31 rfl rfl ?_
      refine g_iload_n (pc' := 43)  hc rfl rfl rfl ?_
      refine g_iconst (pc' := 44) (v := (0 : Int32)) hc rfl zki_0 rfl ?_
      have hb := (zwp_bnd h).1
      replace h := (zwp_bnd h).2
      refine z_iastore (pc' := 45) (g := (I 33)) (L' := [(6, none, (I 6)), (33, none, (upd ((I 33)) a1.toNatClampNeg (0 : Int32))), (36, some 1, fun _ => o3), (36, some 2, fun _ => o2), (37, none, o4)]) hc rfl rfl sh_33 hb rfl rfl rfl rfl ?_
      refine g_iload_n (pc' := 46)  hc rfl rfl rfl ?_
      replace h := zws h
      exact g_ireturn hc rfl rfl rfl (fun _ => ⟨rfl, rfl⟩) h
    · replace h := zwp_t h hx
      refine g_aload_n (pc' := 20)  hc rfl rfl rfl rfl ?_
      refine z_virt (as := []) (a := 0) (r := []) hc rfl rfl rfl rfl sh_0 rfl zco_137 rfl rfl rfl ?_
      refine ok_X11_refuseAct_0 (zdp hd rfl) (zwp_mono (zwp_bind h) ?_)
      rintro ⟨r6, o5⟩ h
      refine z_po (pc' := 23) (st' := [.int r6]) (v := (some (.int r6))) (L' := [(6, none, o5), (33, none, (I 33)), (36, some 1, fun _ => (I 36 1)), (36, some 2, fun _ => (I 36 2)), (37, none, (I 37))]) (K' := []) zco_137 rfl rfl rfl rfl rfl rfl rfl rfl ?_
      replace h := zws h
      exact g_ireturn hc rfl rfl rfl (fun _ => ⟨rfl, rfl⟩) h
  · replace h := zws h
    exact z_pox (L' := [(6, none, (I 6)), (33, none, (I 33)), (36, some 1, fun _ => (I 36 1)), (36, some 2, fun _ => (I 36 2)), (37, none, (I 37))]) (K' := []) rfl rfl rfl rfl rfl rfl rfl h
set_option maxRecDepth 4000 in
theorem ok_L_brush_0_107_q {I : pI} {J : pJ} {a1 : Int32} {Q : pQ} {d : Nat} (hd : 9 ≤ d) (h : zwp (f_L_brush a1 1 (J 107) (I 36 2) (I 36 1) (I 37) (I 32) (I 34) (I 31 0) (I 31 1) (I 33) (J 31 2) (I 19 3) (I 6)) (fun w => match w with | (r, o0, o1, o2, o3, o4, o5) => Q (.inl (some (.int r))) (zS 19 7 I [(6, none, o5), (33, none, o4), (36, some 1, fun _ => o2), (36, some 2, fun _ => o1), (37, none, o3)] J [(107, none, o0)]))) : pm_call M cost zext d 278 [.ref 0, .int a1, .ref 107] (pm_st 108 (shp 19 7) I J) Q := by
  obtain ⟨d, rfl⟩ := zd1 hd rfl
  have hc := pm_call_m (M := M) (cost := cost) zext_m d
  refine z_in (L := [(6, none, (I 6)), (33, none, (I 33)), (36, some 1, fun _ => (I 36 1)), (36, some 2, fun _ => (I 36 2)), (37, none, (I 37))]) (K := [(107, none, (J 107))]) (ls := [some (.ref 0), some (.int a1), some (.ref 107), none]) zmt_278 zco_278 rfl rfl (zid_a (zid_a (zid_s (zid_s (zid_a zid_n))))) (zid_a zid_n) ?_
  delta f_L_brush at h
  refine g_aload_n (pc' := 1)  hc rfl rfl rfl rfl ?_
  refine g_iconst (pc' := 2) (v := (0 : Int32)) hc rfl zki_0 rfl ?_
  refine g_aload_n (pc' := 3)  hc rfl rfl rfl rfl ?_
  refine g_iload_n (pc' := 4)  hc rfl rfl rfl ?_
  refine z_virt (as := [.int a1]) (a := 0) (r := [.int (0 : Int32), .ref 107]) hc rfl rfl rfl rfl sh_0 rfl zco_106 rfl rfl rfl ?_
  refine ok_X11_brush_0_q (zdp hd rfl) (zwp_mono (zwp_bind h) ?_)
  rintro ⟨(r6 | E7), o1, o2, o3, o4, o5⟩ h
  · refine z_po (pc' := 7) (st' := [.int r6, .int (0 : Int32), .ref 107]) (v := (some (.int r6))) (L' := [(6, none, o5), (33, none, o4), (36, some 1, fun _ => o2), (36, some 2, fun _ => o1), (37, none, o3)]) (K' := [(107, none, (J 107))]) zco_106 rfl rfl rfl rfl rfl rfl rfl rfl ?_
    refine g_i2l (pc' := 8)  hc rfl rfl ?_
    have hb := (zwp_bnd h).1
    replace h := (zwp_bnd h).2
    refine z_lastore (pc' := 9) (g := (J 107)) (K' := [(107, none, (vp_updL ((J 107)) (0 : Int32).toNatClampNeg r6.toInt64))]) hc rfl rfl sh_107 hb rfl rfl rfl rfl ?_
    refine g_goto hc rfl ?_
    refine g_iconst (pc' := 16) (v := (0 : Int32)) hc rfl zki_0 rfl ?_
    replace h := zws h
    exact g_ireturn hc rfl rfl rfl (fun _ => ⟨rfl, rfl⟩) h
  · by_cases hE : E7 = x_N
    · replace h := zwp_t h hE
      replace h := zws h
      exact z_poh (L' := [(6, none, o5), (33, none, o4), (36, some 1, fun _ => o2), (36, some 2, fun _ => o1), (37, none, o3)]) (K' := [(107, none, (J 107))]) (zhd1 (e := 9) (pc := 4) rfl hE) rfl rfl rfl rfl rfl rfl rfl rfl h
    replace h := zwp_f h hE
    exact (zwn h).elim
set_option maxRecDepth 4000 in
theorem ok_X11_wall_0_q {I : pI} {J : pJ} {a1 : Int32} {a2 : Int32} {Q : pQ} {d : Nat} (hd : 8 ≤ d) (h : zwp (f_X11_wall a1 a2 (I 36 2) (I 36 1) (I 37) (I 32) (I 31 3) (I 34) (I 31 0) (I 31 1) (I 33) (J 31 2) (I 19 1) (I 23) (I 19 7) (I 19 0) (I 6)) (fun w => match w with | (.inl r, o0, o1, o2, o3, o4) => Q (.inl (some (.int r))) (zS 19 7 I [(6, none, o4), (36, some 1, fun _ => o1), (36, some 2, fun _ => o0), (37, none, o2)] J [(31, some 2, fun _ => o3)]) | (.inr E, o0, o1, o2, o3, o4) => Q (.inr E) (zS 19 7 I [(6, none, o4), (36, some 1, fun _ => o1), (36, some 2, fun _ => o0), (37, none, o2)] J [(31, some 2, fun _ => o3)]))) : pm_call M cost zext d 107 [.ref 0, .int a1, .int a2] (pm_st 108 (shp 19 7) I J) Q := by
  obtain ⟨d, rfl⟩ := zd1 hd rfl
  have hc := pm_call_m (M := M) (cost := cost) zext_m d
  refine z_in (L := [(6, none, (I 6)), (36, some 1, fun _ => (I 36 1)), (36, some 2, fun _ => (I 36 2)), (37, none, (I 37))]) (K := [(31, some 2, fun _ => (J 31 2))]) (ls := [some (.ref 0), some (.int a1), some (.int a2)]) zmt_107 zco_107 rfl rfl (zid_a (zid_s (zid_s (zid_a zid_n)))) (zid_s zid_n) ?_
  delta f_X11_wall at h
  refine g_aload_n (pc' := 1)  hc rfl rfl rfl rfl ?_
  refine g_iload_n (pc' := 2)  hc rfl rfl rfl ?_
  refine z_virt (as := [.int a1]) (a := 0) (r := []) hc rfl rfl rfl rfl sh_0 rfl zco_134 rfl rfl rfl ?_
  refine ok_X11_checkCell_0_q (zdp hd rfl) (zwp_mono (zwp_bind h) ?_)
  rintro (⟨⟩ | E1) h
  · refine z_po (pc' := 5) (st' := []) (v := none) (L' := [(6, none, (I 6)), (36, some 1, fun _ => (I 36 1)), (36, some 2, fun _ => (I 36 2)), (37, none, (I 37))]) (K' := [(31, some 2, fun _ => (J 31 2))]) zco_134 rfl rfl rfl rfl rfl rfl rfl rfl ?_
    refine g_aload_n (pc' := 6)  hc rfl rfl rfl rfl ?_
    refine z_getR (pc' := 9)  hc rfl rfl rfl sh_0 rfl rfl ?_
    refine g_iload_n (pc' := 10)  hc rfl rfl rfl ?_
    refine z_virt (as := [.int a1]) (a := 31) (r := []) hc rfl rfl rfl rfl sh_31 rfl zco_71 rfl rfl rfl ?_
    refine ok_X8_isWall_31 (zdp hd rfl) (zwp_mono (zwp_bind h) ?_)
    rintro r2 h
    refine z_po (pc' := 13) (st' := [.int r2]) (v := (some (.int r2))) (L' := [(6, none, (I 6)), (36, some 1, fun _ => (I 36 1)), (36, some 2, fun _ => (I 36 2)), (37, none, (I 37))]) (K' := [(31, some 2, fun _ => (J 31 2))]) zco_71 rfl rfl rfl rfl rfl rfl rfl rfl ?_
    refine g_iload_n (pc' := 14)  hc rfl rfl rfl ?_
    refine g_icmp_eq (pc' := 17) hc rfl rfl (fun hx => ?_) (fun hx => ?_)
    · replace h := zwp_t h hx
      refine g_aload_n (pc' := 40)  hc rfl rfl rfl rfl ?_
      refine z_virt (as := []) (a := 0) (r := []) hc rfl rfl rfl rfl sh_0 rfl zco_137 rfl rfl rfl ?_
      refine ok_X11_refuseAct_0 (zdp hd rfl) (zwp_mono (zwp_bind h) ?_)
      rintro ⟨r4, o3⟩ h
      refine z_po (pc' := 43) (st' := [.int r4]) (v := (some (.int r4))) (L' := [(6, none, o3), (36, some 1, fun _ => (I 36 1)), (36, some 2, fun _ => (I 36 2)), (37, none, (I 37))]) (K' := [(31, some 2, fun _ => (J 31 2))]) zco_137 rfl rfl rfl rfl rfl rfl rfl rfl ?_
      refine g_pop (pc' := 44)  hc rfl rfl rfl ?_
      refine g_iconst (pc' := 45) (v := (0 : Int32)) hc rfl zki_0 rfl ?_
      replace h := zws h
      exact g_ireturn hc rfl rfl rfl (fun _ => ⟨rfl, rfl⟩) h
    · replace h := zwp_f h hx
      refine g_aload_n (pc' := 18)  hc rfl rfl rfl rfl ?_
      refine z_getR (pc' := 21)  hc rfl rfl rfl sh_0 rfl rfl ?_
      refine g_iload_n (pc' := 22)  hc rfl rfl rfl ?_
      refine z_virt (as := [.int a1]) (a := 31) (r := []) hc rfl rfl rfl rfl sh_31 rfl zco_72 rfl rfl rfl ?_
      refine ok_X8_figuresAt_31 (zdp hd rfl) (zwp_mono (zwp_bind h) ?_)
      rintro r5 h
      refine z_po (pc' := 25) (st' := [.int r5]) (v := (some (.int r5))) (L' := [(6, none, (I 6)), (36, some 1, fun _ => (I 36 1)), (36, some 2, fun _ => (I 36 2)), (37, none, (I 37))]) (K' := [(31, some 2, fun _ => (J 31 2))]) zco_72 rfl rfl rfl rfl rfl rfl rfl rfl ?_
      refine g_if_ne (pc' := 28) hc rfl rfl (fun hx => ?_) (fun hx => ?_)
      · replace h := zwp_f h hx
        refine g_aload_n (pc' := 40)  hc rfl rfl rfl rfl ?_
        refine z_virt (as := []) (a := 0) (r := []) hc rfl rfl rfl rfl sh_0 rfl zco_137 rfl rfl rfl ?_
        refine ok_X11_refuseAct_0 (zdp hd rfl) (zwp_mono (zwp_bind h) ?_)
        rintro ⟨r7, o6⟩ h
        refine z_po (pc' := 43) (st' := [.int r7]) (v := (some (.int r7))) (L' := [(6, none, o6), (36, some 1, fun _ => (I 36 1)), (36, some 2, fun _ => (I 36 2)), (37, none, (I 37))]) (K' := [(31, some 2, fun _ => (J 31 2))]) zco_137 rfl rfl rfl rfl rfl rfl rfl rfl ?_
        refine g_pop (pc' := 44)  hc rfl rfl rfl ?_
        refine g_iconst (pc' := 45) (v := (0 : Int32)) hc rfl zki_0 rfl ?_
        replace h := zws h
        exact g_ireturn hc rfl rfl rfl (fun _ => ⟨rfl, rfl⟩) h
      · replace h := zwp_t h hx
        refine g_aload_n (pc' := 29)  hc rfl rfl rfl rfl ?_
        refine z_getR (pc' := 32)  hc rfl rfl rfl sh_0 rfl rfl ?_
        refine g_iload_n (pc' := 33)  hc rfl rfl rfl ?_
        refine z_virt (as := [.int a1]) (a := 19) (r := []) hc rfl rfl rfl rfl sh_19 rfl zco_25 rfl rfl rfl ?_
        refine ok_X3_seatsAt_19 (zdp hd rfl) (zwp_mono (zwp_bind h) ?_)
        rintro r8 h
        refine z_po (pc' := 36) (st' := [.int r8]) (v := (some (.int r8))) (L' := [(6, none, (I 6)), (36, some 1, fun _ => (I 36 1)), (36, some 2, fun _ => (I 36 2)), (37, none, (I 37))]) (K' := [(31, some 2, fun _ => (J 31 2))]) zco_25 rfl rfl rfl rfl rfl rfl rfl rfl ?_
        refine g_if_eq (pc' := 39) hc rfl rfl (fun hx => ?_) (fun hx => ?_)
        · replace h := zwp_t h hx
          refine g_aload_n (pc' := 47)  hc rfl rfl rfl rfl ?_
          refine z_getR (pc' := 50)  hc rfl rfl rfl sh_0 rfl rfl ?_
          refine g_aload_n (pc' := 51)  hc rfl rfl rfl rfl ?_
          refine z_getR (pc' := 54)  hc rfl rfl rfl sh_0 rfl rfl ?_
          refine z_virt (as := [.ref 31]) (a := 36) (r := []) hc rfl rfl rfl rfl sh_36 rfl zco_3 rfl rfl rfl ?_
          refine ok_X0_keep_36_31 (zdp hd rfl) (zwp_mono (zwp_bind h) ?_)
          rintro ⟨o9, o10, o11⟩ h
          refine z_po (pc' := 57) (st' := []) (v := none) (L' := [(6, none, (I 6)), (36, some 1, fun _ => o10), (36, some 2, fun _ => o9), (37, none, o11)]) (K' := [(31, some 2, fun _ => (J 31 2))]) zco_3 rfl rfl rfl rfl rfl rfl rfl rfl ?_
          refine g_aload_n (pc' := 58)  hc rfl rfl rfl rfl ?_
          refine z_getR (pc' := 61)  hc rfl rfl rfl sh_0 rfl rfl ?_
          refine g_aload_n (pc' := 62)  hc rfl rfl rfl rfl ?_
          refine z_getR (pc' := 65)  hc rfl rfl rfl sh_0 rfl rfl ?_
          refine z_getJ (pc' := 68) (v := (J 31 2)) hc rfl rfl rfl sh_31 rfl rfl rfl ?_
          refine g_lconst (pc' := 69) (v := (1 : Int64)) hc rfl zkl_1 rfl ?_
          refine g_iload_n (pc' := 70)  hc rfl rfl rfl ?_
          refine g_lshl (pc' := 71)  hc rfl rfl ?_
          refine g_lxor (pc' := 72)  hc rfl rfl ?_
          refine z_putJ (pc' := 75) (K' := [(31, some 2, fun _ => (((J 31 2)) ^^^ ((1 : Int64) <<< (a1.toInt64 &&& 63))))]) hc rfl rfl rfl sh_31 rfl zft_8_2 (fun h => Bool.noConfusion h) rfl rfl rfl ?_
          refine g_iconst (pc' := 76) (v := (1 : Int32)) hc rfl zki_1 rfl ?_
          replace h := zws h
          exact g_ireturn hc rfl rfl rfl (fun _ => ⟨rfl, rfl⟩) h
        · replace h := zwp_f h hx
          refine g_aload_n (pc' := 40)  hc rfl rfl rfl rfl ?_
          refine z_virt (as := []) (a := 0) (r := []) hc rfl rfl rfl rfl sh_0 rfl zco_137 rfl rfl rfl ?_
          refine ok_X11_refuseAct_0 (zdp hd rfl) (zwp_mono (zwp_bind h) ?_)
          rintro ⟨r13, o12⟩ h
          refine z_po (pc' := 43) (st' := [.int r13]) (v := (some (.int r13))) (L' := [(6, none, o12), (36, some 1, fun _ => (I 36 1)), (36, some 2, fun _ => (I 36 2)), (37, none, (I 37))]) (K' := [(31, some 2, fun _ => (J 31 2))]) zco_137 rfl rfl rfl rfl rfl rfl rfl rfl ?_
          refine g_pop (pc' := 44)  hc rfl rfl rfl ?_
          refine g_iconst (pc' := 45) (v := (0 : Int32)) hc rfl zki_0 rfl ?_
          replace h := zws h
          exact g_ireturn hc rfl rfl rfl (fun _ => ⟨rfl, rfl⟩) h
  · replace h := zws h
    exact z_pox (L' := [(6, none, (I 6)), (36, some 1, fun _ => (I 36 1)), (36, some 2, fun _ => (I 36 2)), (37, none, (I 37))]) (K' := [(31, some 2, fun _ => (J 31 2))]) rfl rfl rfl rfl rfl rfl rfl h
set_option maxRecDepth 4000 in
theorem ok_L_wall_0_107_q {I : pI} {J : pJ} {a1 : Int32} {a2 : Int32} {Q : pQ} {d : Nat} (hd : 9 ≤ d) (h : zwp (f_L_wall a1 a2 1 (J 107) (I 36 2) (I 36 1) (I 37) (I 32) (I 31 3) (I 34) (I 31 0) (I 31 1) (I 33) (J 31 2) (I 19 1) (I 23) (I 19 7) (I 19 0) (I 6)) (fun w => match w with | (r, o0, o1, o2, o3, o4, o5) => Q (.inl (some (.int r))) (zS 19 7 I [(6, none, o5), (36, some 1, fun _ => o2), (36, some 2, fun _ => o1), (37, none, o3)] J [(31, some 2, fun _ => o4), (107, none, o0)]))) : pm_call M cost zext d 279 [.ref 0, .int a1, .int a2, .ref 107] (pm_st 108 (shp 19 7) I J) Q := by
  obtain ⟨d, rfl⟩ := zd1 hd rfl
  have hc := pm_call_m (M := M) (cost := cost) zext_m d
  refine z_in (L := [(6, none, (I 6)), (36, some 1, fun _ => (I 36 1)), (36, some 2, fun _ => (I 36 2)), (37, none, (I 37))]) (K := [(31, some 2, fun _ => (J 31 2)), (107, none, (J 107))]) (ls := [some (.ref 0), some (.int a1), some (.int a2), some (.ref 107), none]) zmt_279 zco_279 rfl rfl (zid_a (zid_s (zid_s (zid_a zid_n)))) (zid_s (zid_a zid_n)) ?_
  delta f_L_wall at h
  refine g_aload_n (pc' := 1)  hc rfl rfl rfl rfl ?_
  refine g_iconst (pc' := 2) (v := (0 : Int32)) hc rfl zki_0 rfl ?_
  refine g_aload_n (pc' := 3)  hc rfl rfl rfl rfl ?_
  refine g_iload_n (pc' := 4)  hc rfl rfl rfl ?_
  refine g_iload_n (pc' := 5)  hc rfl rfl rfl ?_
  refine z_virt (as := [.int a1, .int a2]) (a := 0) (r := [.int (0 : Int32), .ref 107]) hc rfl rfl rfl rfl sh_0 rfl zco_107 rfl rfl rfl ?_
  refine ok_X11_wall_0_q (zdp hd rfl) (zwp_mono (zwp_bind h) ?_)
  rintro ⟨(r6 | E7), o1, o2, o3, o4, o5⟩ h
  · refine z_po (pc' := 8) (st' := [.int r6, .int (0 : Int32), .ref 107]) (v := (some (.int r6))) (L' := [(6, none, o5), (36, some 1, fun _ => o2), (36, some 2, fun _ => o1), (37, none, o3)]) (K' := [(31, some 2, fun _ => o4), (107, none, (J 107))]) zco_107 rfl rfl rfl rfl rfl rfl rfl rfl ?_
    refine zjn (G := (fun (j8 : Int64) => pm_ev C_L_wall (d + 1) (pm_call M cost zext d) cost (false, true) 108 1 6 Q 16 [some (.ref 0), some (.int a1), some (.int a2), some (.ref 107), none] [.long j8, .int (0 : Int32), .ref 107] 0 0 (zS 19 7 I [(6, none, o5), (36, some 1, fun _ => o2), (36, some 2, fun _ => o1), (37, none, o3)] J [(31, some 2, fun _ => o4), (107, none, (J 107))]))) (zwp_bind h) ?_ (fun h => ?_)
    · rintro j8 h
      have hb := (zwp_bnd h).1
      replace h := (zwp_bnd h).2
      refine z_lastore (pc' := 17) (g := (J 107)) (K' := [(31, some 2, fun _ => o4), (107, none, (vp_updL ((J 107)) (0 : Int32).toNatClampNeg j8))]) hc rfl rfl sh_107 hb rfl rfl rfl rfl ?_
      refine g_goto hc rfl ?_
      refine g_iconst (pc' := 25) (v := (0 : Int32)) hc rfl zki_0 rfl ?_
      replace h := zws h
      exact g_ireturn hc rfl rfl rfl (fun _ => ⟨rfl, rfl⟩) h
    refine g_if_eq (pc' := 11) hc rfl rfl (fun hx => ?_) (fun hx => ?_)
    · replace h := zwp_t h hx
      refine g_lconst (pc' := 16) (v := (0 : Int64)) hc rfl zkl_0 rfl ?_
      replace h := zws h
      exact h
    · replace h := zwp_f h hx
      refine g_lconst (pc' := 12) (v := (1 : Int64)) hc rfl zkl_1 rfl ?_
      refine g_goto hc rfl ?_
      replace h := zws h
      exact h
  · by_cases hE : E7 = x_N
    · replace h := zwp_t h hE
      replace h := zws h
      exact z_poh (L' := [(6, none, o5), (36, some 1, fun _ => o2), (36, some 2, fun _ => o1), (37, none, o3)]) (K' := [(31, some 2, fun _ => o4), (107, none, (J 107))]) (zhd1 (e := 17) (pc := 5) rfl hE) rfl rfl rfl rfl rfl rfl rfl rfl h
    replace h := zwp_f h hE
    exact (zwn h).elim
set_option maxRecDepth 4000 in
theorem ok_X11_then_0_q {I : pI} {J : pJ} {a1 : Int32} {a2 : Int32} {a3 : Int32} {Q : pQ} {d : Nat} (hd : 8 ≤ d) (h : zwp (f_X11_then a1 a2 a3 (I 54) (I 53 3) (I 56) (I 53 0) (I 57) (I 53 1) (I 55) (J 53 2) (I 52) (I 32) (I 31 3) (I 34) (I 31 0) (I 35) (I 31 1) (I 33) (J 31 2) (I 19 12) (I 19 3) (I 27) (I 25 2) (I 26) (I 19 1) (I 30) (I 28 2) (I 29) (I 24) (I 19 9) (I 21) (I 22) (I 19 0)) (fun w => match w with | (.inl r, o0, o1, o2, o3, o4, o5, o6, o7, o8, o9, o10) => Q (.inl (some (.int r))) (zS 19 7 I [(26, none, o9), (29, none, o10), (52, none, o8), (53, some 0, fun _ => o3), (53, some 1, fun _ => o5), (53, some 3, fun _ => o1), (54, none, o0), (55, none, o6), (56, none, o2), (57, none, o4)] J [(53, some 2, fun _ => o7)]) | (.inr E, o0, o1, o2, o3, o4, o5, o6, o7, o8, o9, o10) => Q (.inr E) (zS 19 7 I [(26, none, o9), (29, none, o10), (52, none, o8), (53, some 0, fun _ => o3), (53, some 1, fun _ => o5), (53, some 3, fun _ => o1), (54, none, o0), (55, none, o6), (56, none, o2), (57, none, o4)] J [(53, some 2, fun _ => o7)]))) : pm_call M cost zext d 109 [.ref 0, .int a1, .int a2, .int a3] (pm_st 108 (shp 19 7) I J) Q := by
  obtain ⟨d, rfl⟩ := zd1 hd rfl
  have hc := pm_call_m (M := M) (cost := cost) zext_m d
  refine z_in (L := [(26, none, (I 26)), (29, none, (I 29)), (52, none, (I 52)), (53, some 0, fun _ => (I 53 0)), (53, some 1, fun _ => (I 53 1)), (53, some 3, fun _ => (I 53 3)), (54, none, (I 54)), (55, none, (I 55)), (56, none, (I 56)), (57, none, (I 57))]) (K := [(53, some 2, fun _ => (J 53 2))]) (ls := [some (.ref 0), some (.int a1), some (.int a2), some (.int a3)]) zmt_109 zco_109 rfl rfl (zid_a (zid_a (zid_a (zid_s (zid_s (zid_s (zid_a (zid_a (zid_a (zid_a zid_n)))))))))) (zid_s zid_n) ?_
  delta f_X11_then at h
  refine g_aload_n (pc' := 1)  hc rfl rfl rfl rfl ?_
  refine g_iload_n (pc' := 2)  hc rfl rfl rfl ?_
  refine z_virt (as := [.int a1]) (a := 0) (r := []) hc rfl rfl rfl rfl sh_0 rfl zco_133 rfl rfl rfl ?_
  refine ok_X11_checkFigure_0_q (zdp hd rfl) (zwp_mono (zwp_bind h) ?_)
  rintro (⟨⟩ | E1) h
  · refine z_po (pc' := 5) (st' := []) (v := none) (L' := [(26, none, (I 26)), (29, none, (I 29)), (52, none, (I 52)), (53, some 0, fun _ => (I 53 0)), (53, some 1, fun _ => (I 53 1)), (53, some 3, fun _ => (I 53 3)), (54, none, (I 54)), (55, none, (I 55)), (56, none, (I 56)), (57, none, (I 57))]) (K' := [(53, some 2, fun _ => (J 53 2))]) zco_133 rfl rfl rfl rfl rfl rfl rfl rfl ?_
    refine g_iload_n (pc' := 6)  hc rfl rfl rfl ?_
    refine g_iconst (pc' := 7) (v := (2 : Int32)) hc rfl zki_2 rfl ?_
    refine z_stat (as := [.int a3, .int (2 : Int32)]) (r := []) hc rfl rfl rfl rfl zco_135 rfl rfl rfl ?_
    refine ok_X11_checkWhat (zdp hd rfl) (zwp_mono (zwp_bind h) ?_)
    rintro (⟨⟩ | E2) h
    · refine z_po (pc' := 10) (st' := []) (v := none) (L' := [(26, none, (I 26)), (29, none, (I 29)), (52, none, (I 52)), (53, some 0, fun _ => (I 53 0)), (53, some 1, fun _ => (I 53 1)), (53, some 3, fun _ => (I 53 3)), (54, none, (I 54)), (55, none, (I 55)), (56, none, (I 56)), (57, none, (I 57))]) (K' := [(53, some 2, fun _ => (J 53 2))]) zco_135 rfl rfl rfl rfl rfl rfl rfl rfl ?_
      refine g_iload_n (pc' := 11)  hc rfl rfl rfl ?_
      refine g_iconst (pc' := 12) (v := (0 : Int32)) hc rfl zki_0 rfl ?_
      refine g_bipush (pc' := 14) (v := (100 : Int32)) hc rfl zkb_100 rfl ?_
      refine z_stat (as := [.int a2, .int (0 : Int32), .int (100 : Int32)]) (r := []) hc rfl rfl rfl rfl zco_136 rfl rfl rfl ?_
      refine ok_X11_checkHours (zdp hd rfl) (zwp_mono (zwp_bind h) ?_)
      rintro (⟨⟩ | E3) h
      · refine z_po (pc' := 17) (st' := []) (v := none) (L' := [(26, none, (I 26)), (29, none, (I 29)), (52, none, (I 52)), (53, some 0, fun _ => (I 53 0)), (53, some 1, fun _ => (I 53 1)), (53, some 3, fun _ => (I 53 3)), (54, none, (I 54)), (55, none, (I 55)), (56, none, (I 56)), (57, none, (I 57))]) (K' := [(53, some 2, fun _ => (J 53 2))]) zco_136 rfl rfl rfl rfl rfl rfl rfl rfl ?_
        refine g_aload_n (pc' := 18)  hc rfl rfl rfl rfl ?_
        refine g_iload_n (pc' := 19)  hc rfl rfl rfl ?_
        refine z_virt (as := [.int a2]) (a := 0) (r := []) hc rfl rfl rfl rfl sh_0 rfl zco_139 rfl rfl rfl ?_
        refine ok_X11_foresee_0_q (zdp hd rfl) (zwp_mono (zwp_bind h) ?_)
        rintro ⟨o4, o5, o6, o7, o8, o9, o10, o11, o12, o13, o14⟩ h
        refine z_po (pc' := 22) (st' := []) (v := none) (L' := [(26, none, o13), (29, none, o14), (52, none, o12), (53, some 0, fun _ => o7), (53, some 1, fun _ => o9), (53, some 3, fun _ => o5), (54, none, o4), (55, none, o10), (56, none, o6), (57, none, o8)]) (K' := [(53, some 2, fun _ => o11)]) zco_139 rfl rfl rfl rfl rfl rfl rfl rfl ?_
        refine g_iload_n (pc' := 23)  hc rfl rfl rfl ?_
        refine g_if_ne (pc' := 26) hc rfl rfl (fun hx => ?_) (fun hx => ?_)
        · replace h := zwp_f h hx
          refine g_iload_n (pc' := 37)  hc rfl rfl rfl ?_
          refine g_iconst (pc' := 38) (v := (1 : Int32)) hc rfl zki_1 rfl ?_
          refine g_icmp_ne (pc' := 41) hc rfl rfl (fun hx => ?_) (fun hx => ?_)
          · replace h := zwp_f h hx
            refine g_aload_n (pc' := 54)  hc rfl rfl rfl rfl ?_
            refine z_getR (pc' := 57)  hc rfl rfl rfl sh_0 rfl rfl ?_
            refine z_getR (pc' := 60)  hc rfl rfl rfl sh_53 rfl rfl ?_
            refine g_iload_n (pc' := 61)  hc rfl rfl rfl ?_
            have hb := (zwp_bnd h).1
            replace h := (zwp_bnd h).2
            refine z_iaload (pc' := 62) (v := (o6 a1.toNatClampNeg)) hc rfl rfl sh_56 hb rfl rfl ?_
            replace h := zws h
            exact g_ireturn hc rfl rfl rfl (fun _ => ⟨rfl, rfl⟩) h
          · replace h := zwp_t h hx
            refine g_aload_n (pc' := 42)  hc rfl rfl rfl rfl ?_
            refine z_getR (pc' := 45)  hc rfl rfl rfl sh_0 rfl rfl ?_
            refine z_getR (pc' := 48)  hc rfl rfl rfl sh_53 rfl rfl ?_
            refine g_iload_n (pc' := 49)  hc rfl rfl rfl ?_
            have hb := (zwp_bnd h).1
            replace h := (zwp_bnd h).2
            refine z_iaload (pc' := 50) (v := (o10 a1.toNatClampNeg)) hc rfl rfl sh_55 hb rfl rfl ?_
            refine g_goto hc rfl ?_
            replace h := zws h
            exact g_ireturn hc rfl rfl rfl (fun _ => ⟨rfl, rfl⟩) h
        · replace h := zwp_t h hx
          refine g_aload_n (pc' := 27)  hc rfl rfl rfl rfl ?_
          refine z_getR (pc' := 30)  hc rfl rfl rfl sh_0 rfl rfl ?_
          refine z_getR (pc' := 33)  hc rfl rfl rfl sh_53 rfl rfl ?_
          refine g_iload_n (pc' := 34)  hc rfl rfl rfl ?_
          have hb := (zwp_bnd h).1
          replace h := (zwp_bnd h).2
          refine z_iaload (pc' := 35) (v := (o4 a1.toNatClampNeg)) hc rfl rfl sh_54 hb rfl rfl ?_
          replace h := zws h
          exact g_ireturn hc rfl rfl rfl (fun _ => ⟨rfl, rfl⟩) h
      · replace h := zws h
        exact z_pox (L' := [(26, none, (I 26)), (29, none, (I 29)), (52, none, (I 52)), (53, some 0, fun _ => (I 53 0)), (53, some 1, fun _ => (I 53 1)), (53, some 3, fun _ => (I 53 3)), (54, none, (I 54)), (55, none, (I 55)), (56, none, (I 56)), (57, none, (I 57))]) (K' := [(53, some 2, fun _ => (J 53 2))]) rfl rfl rfl rfl rfl rfl rfl h
    · replace h := zws h
      exact z_pox (L' := [(26, none, (I 26)), (29, none, (I 29)), (52, none, (I 52)), (53, some 0, fun _ => (I 53 0)), (53, some 1, fun _ => (I 53 1)), (53, some 3, fun _ => (I 53 3)), (54, none, (I 54)), (55, none, (I 55)), (56, none, (I 56)), (57, none, (I 57))]) (K' := [(53, some 2, fun _ => (J 53 2))]) rfl rfl rfl rfl rfl rfl rfl h
  · replace h := zws h
    exact z_pox (L' := [(26, none, (I 26)), (29, none, (I 29)), (52, none, (I 52)), (53, some 0, fun _ => (I 53 0)), (53, some 1, fun _ => (I 53 1)), (53, some 3, fun _ => (I 53 3)), (54, none, (I 54)), (55, none, (I 55)), (56, none, (I 56)), (57, none, (I 57))]) (K' := [(53, some 2, fun _ => (J 53 2))]) rfl rfl rfl rfl rfl rfl rfl h
set_option maxRecDepth 4000 in
theorem ok_L_then_0_107_q {I : pI} {J : pJ} {a1 : Int32} {a2 : Int32} {a3 : Int32} {Q : pQ} {d : Nat} (hd : 9 ≤ d) (h : zwp (f_L_then a1 a2 a3 1 (J 107) (I 54) (I 53 3) (I 56) (I 53 0) (I 57) (I 53 1) (I 55) (J 53 2) (I 52) (I 32) (I 31 3) (I 34) (I 31 0) (I 35) (I 31 1) (I 33) (J 31 2) (I 19 12) (I 19 3) (I 27) (I 25 2) (I 26) (I 19 1) (I 30) (I 28 2) (I 29) (I 24) (I 19 9) (I 21) (I 22) (I 19 0)) (fun w => match w with | (r, o0, o1, o2, o3, o4, o5, o6, o7, o8, o9, o10, o11) => Q (.inl (some (.int r))) (zS 19 7 I [(26, none, o10), (29, none, o11), (52, none, o9), (53, some 0, fun _ => o4), (53, some 1, fun _ => o6), (53, some 3, fun _ => o2), (54, none, o1), (55, none, o7), (56, none, o3), (57, none, o5)] J [(53, some 2, fun _ => o8), (107, none, o0)]))) : pm_call M cost zext d 280 [.ref 0, .int a1, .int a2, .int a3, .ref 107] (pm_st 108 (shp 19 7) I J) Q := by
  obtain ⟨d, rfl⟩ := zd1 hd rfl
  have hc := pm_call_m (M := M) (cost := cost) zext_m d
  refine z_in (L := [(26, none, (I 26)), (29, none, (I 29)), (52, none, (I 52)), (53, some 0, fun _ => (I 53 0)), (53, some 1, fun _ => (I 53 1)), (53, some 3, fun _ => (I 53 3)), (54, none, (I 54)), (55, none, (I 55)), (56, none, (I 56)), (57, none, (I 57))]) (K := [(53, some 2, fun _ => (J 53 2)), (107, none, (J 107))]) (ls := [some (.ref 0), some (.int a1), some (.int a2), some (.int a3), some (.ref 107), none]) zmt_280 zco_280 rfl rfl (zid_a (zid_a (zid_a (zid_s (zid_s (zid_s (zid_a (zid_a (zid_a (zid_a zid_n)))))))))) (zid_s (zid_a zid_n)) ?_
  delta f_L_then at h
  refine g_aload (pc' := 2)  hc rfl rfl rfl rfl ?_
  refine g_iconst (pc' := 3) (v := (0 : Int32)) hc rfl zki_0 rfl ?_
  refine g_aload_n (pc' := 4)  hc rfl rfl rfl rfl ?_
  refine g_iload_n (pc' := 5)  hc rfl rfl rfl ?_
  refine g_iload_n (pc' := 6)  hc rfl rfl rfl ?_
  refine g_iload_n (pc' := 7)  hc rfl rfl rfl ?_
  refine z_virt (as := [.int a1, .int a2, .int a3]) (a := 0) (r := [.int (0 : Int32), .ref 107]) hc rfl rfl rfl rfl sh_0 rfl zco_109 rfl rfl rfl ?_
  refine ok_X11_then_0_q (zdp hd rfl) (zwp_mono (zwp_bind h) ?_)
  rintro ⟨(r12 | E13), o1, o2, o3, o4, o5, o6, o7, o8, o9, o10, o11⟩ h
  · refine z_po (pc' := 10) (st' := [.int r12, .int (0 : Int32), .ref 107]) (v := (some (.int r12))) (L' := [(26, none, o10), (29, none, o11), (52, none, o9), (53, some 0, fun _ => o4), (53, some 1, fun _ => o6), (53, some 3, fun _ => o2), (54, none, o1), (55, none, o7), (56, none, o3), (57, none, o5)]) (K' := [(53, some 2, fun _ => o8), (107, none, (J 107))]) zco_109 rfl rfl rfl rfl rfl rfl rfl rfl ?_
    refine g_i2l (pc' := 11)  hc rfl rfl ?_
    have hb := (zwp_bnd h).1
    replace h := (zwp_bnd h).2
    refine z_lastore (pc' := 12) (g := (J 107)) (K' := [(53, some 2, fun _ => o8), (107, none, (vp_updL ((J 107)) (0 : Int32).toNatClampNeg r12.toInt64))]) hc rfl rfl sh_107 hb rfl rfl rfl rfl ?_
    refine g_goto hc rfl ?_
    refine g_iconst (pc' := 24) (v := (0 : Int32)) hc rfl zki_0 rfl ?_
    replace h := zws h
    exact g_ireturn hc rfl rfl rfl (fun _ => ⟨rfl, rfl⟩) h
  · by_cases hE : E13 = x_N
    · replace h := zwp_t h hE
      replace h := zws h
      exact z_poh (L' := [(26, none, o10), (29, none, o11), (52, none, o9), (53, some 0, fun _ => o4), (53, some 1, fun _ => o6), (53, some 3, fun _ => o2), (54, none, o1), (55, none, o7), (56, none, o3), (57, none, o5)]) (K' := [(53, some 2, fun _ => o8), (107, none, (J 107))]) (zhd2a (e := 12) (pc := 7) rfl hE) rfl rfl rfl rfl rfl rfl rfl rfl h
    replace h := zwp_f h hE
    have hN := hE
    by_cases hE : E13 = x_I
    · replace h := zwp_t h hE
      replace h := zws h
      exact z_poh (L' := [(26, none, o10), (29, none, o11), (52, none, o9), (53, some 0, fun _ => o4), (53, some 1, fun _ => o6), (53, some 3, fun _ => o2), (54, none, o1), (55, none, o7), (56, none, o3), (57, none, o5)]) (K' := [(53, some 2, fun _ => o8), (107, none, (J 107))]) (zhd2b (e := 12) (pc := 7) rfl hN hE) rfl rfl rfl rfl rfl rfl rfl rfl h
    replace h := zwp_f h hE
    exact (zwn h).elim
set_option maxRecDepth 4000 in
theorem ok_X11_comes_0_q {I : pI} {J : pJ} {a1 : Int32} {a2 : Int32} {Q : pQ} {d : Nat} (hd : 8 ≤ d) (h : zwp (f_X11_comes a1 a2 (I 54) (I 53 3) (I 56) (I 53 0) (I 57) (I 53 1) (I 55) (J 53 2) (I 52) (I 32) (I 31 3) (I 34) (I 31 0) (I 35) (I 31 1) (I 33) (J 31 2) (I 19 12) (I 19 3) (I 27) (I 25 2) (I 26) (I 19 1) (I 30) (I 28 2) (I 29) (I 24) (I 19 9) (I 21) (I 22) (I 19 0)) (fun w => match w with | (.inl r, o0, o1, o2, o3, o4, o5, o6, o7, o8, o9, o10) => Q (.inl (some (.int r))) (zS 19 7 I [(26, none, o9), (29, none, o10), (52, none, o8), (53, some 0, fun _ => o3), (53, some 1, fun _ => o5), (53, some 3, fun _ => o1), (54, none, o0), (55, none, o6), (56, none, o2), (57, none, o4)] J [(53, some 2, fun _ => o7)]) | (.inr E, o0, o1, o2, o3, o4, o5, o6, o7, o8, o9, o10) => Q (.inr E) (zS 19 7 I [(26, none, o9), (29, none, o10), (52, none, o8), (53, some 0, fun _ => o3), (53, some 1, fun _ => o5), (53, some 3, fun _ => o1), (54, none, o0), (55, none, o6), (56, none, o2), (57, none, o4)] J [(53, some 2, fun _ => o7)]))) : pm_call M cost zext d 110 [.ref 0, .int a1, .int a2] (pm_st 108 (shp 19 7) I J) Q := by
  obtain ⟨d, rfl⟩ := zd1 hd rfl
  have hc := pm_call_m (M := M) (cost := cost) zext_m d
  refine z_in (L := [(26, none, (I 26)), (29, none, (I 29)), (52, none, (I 52)), (53, some 0, fun _ => (I 53 0)), (53, some 1, fun _ => (I 53 1)), (53, some 3, fun _ => (I 53 3)), (54, none, (I 54)), (55, none, (I 55)), (56, none, (I 56)), (57, none, (I 57))]) (K := [(53, some 2, fun _ => (J 53 2))]) (ls := [some (.ref 0), some (.int a1), some (.int a2), none]) zmt_110 zco_110 rfl rfl (zid_a (zid_a (zid_a (zid_s (zid_s (zid_s (zid_a (zid_a (zid_a (zid_a zid_n)))))))))) (zid_s zid_n) ?_
  delta f_X11_comes at h
  refine g_aload_n (pc' := 1)  hc rfl rfl rfl rfl ?_
  refine g_iload_n (pc' := 2)  hc rfl rfl rfl ?_
  refine z_virt (as := [.int a1]) (a := 0) (r := []) hc rfl rfl rfl rfl sh_0 rfl zco_133 rfl rfl rfl ?_
  refine ok_X11_checkFigure_0_q (zdp hd rfl) (zwp_mono (zwp_bind h) ?_)
  rintro (⟨⟩ | E1) h
  · refine z_po (pc' := 5) (st' := []) (v := none) (L' := [(26, none, (I 26)), (29, none, (I 29)), (52, none, (I 52)), (53, some 0, fun _ => (I 53 0)), (53, some 1, fun _ => (I 53 1)), (53, some 3, fun _ => (I 53 3)), (54, none, (I 54)), (55, none, (I 55)), (56, none, (I 56)), (57, none, (I 57))]) (K' := [(53, some 2, fun _ => (J 53 2))]) zco_133 rfl rfl rfl rfl rfl rfl rfl rfl ?_
    refine g_aload_n (pc' := 6)  hc rfl rfl rfl rfl ?_
    refine g_iload_n (pc' := 7)  hc rfl rfl rfl ?_
    refine z_virt (as := [.int a2]) (a := 0) (r := []) hc rfl rfl rfl rfl sh_0 rfl zco_134 rfl rfl rfl ?_
    refine ok_X11_checkCell_0_q (zdp hd rfl) (zwp_mono (zwp_bind h) ?_)
    rintro (⟨⟩ | E2) h
    · refine z_po (pc' := 10) (st' := []) (v := none) (L' := [(26, none, (I 26)), (29, none, (I 29)), (52, none, (I 52)), (53, some 0, fun _ => (I 53 0)), (53, some 1, fun _ => (I 53 1)), (53, some 3, fun _ => (I 53 3)), (54, none, (I 54)), (55, none, (I 55)), (56, none, (I 56)), (57, none, (I 57))]) (K' := [(53, some 2, fun _ => (J 53 2))]) zco_134 rfl rfl rfl rfl rfl rfl rfl rfl ?_
      refine g_aload_n (pc' := 11)  hc rfl rfl rfl rfl ?_
      refine g_iconst (pc' := 12) (v := (0 : Int32)) hc rfl zki_0 rfl ?_
      refine z_virt (as := [.int (0 : Int32)]) (a := 0) (r := []) hc rfl rfl rfl rfl sh_0 rfl zco_139 rfl rfl rfl ?_
      refine ok_X11_foresee_0_q (zdp hd rfl) (zwp_mono (zwp_bind h) ?_)
      rintro ⟨o3, o4, o5, o6, o7, o8, o9, o10, o11, o12, o13⟩ h
      refine z_po (pc' := 15) (st' := []) (v := none) (L' := [(26, none, o12), (29, none, o13), (52, none, o11), (53, some 0, fun _ => o6), (53, some 1, fun _ => o8), (53, some 3, fun _ => o4), (54, none, o3), (55, none, o9), (56, none, o5), (57, none, o7)]) (K' := [(53, some 2, fun _ => o10)]) zco_139 rfl rfl rfl rfl rfl rfl rfl rfl ?_
      refine g_iconst (pc' := 16) (v := (0 : Int32)) hc rfl zki_0 rfl ?_
      refine g_istore_n (pc' := 17) (ls1 := [some (.ref 0), some (.int a1), some (.int a2), some (.int (0 : Int32))]) hc rfl (zlt rfl) rfl rfl ?_
      refine zjs (G := (fun (g : (Nat → Int32) × (Nat → Int32) × Int32 × (Nat → Int32) × (Nat → Int32) × (Nat → Int32) × (Nat → Int32)) => match g with | (y23, y24, y25, y26, y27, y28, y29) => ∀ z22 : Option Value, znl z22 = true → pm_ev C_X11_comes (d + 1) (pm_call M cost zext d) cost (false, false) 108 1 6 Q 48 [some (.ref 0), some (.int a1), some (.int a2), z22] [] 0 0 (zS 19 7 I [(26, none, y28), (29, none, y29), (52, none, y27), (53, some 0, fun _ => y25), (53, some 1, fun _ => o8), (53, some 3, fun _ => o4), (54, none, y23), (55, none, y26), (56, none, y24), (57, none, o7)] J [(53, some 2, fun _ => o10)]))) h ?_ (fun h => ?_)
      · rintro ⟨y23, y24, y25, y26, y27, y28, y29⟩ h z22 hz22
        refine g_iconst (pc' := 49) (v := (-1 : Int32)) hc rfl zki_m1 rfl ?_
        replace h := zws h
        exact g_ireturn hc rfl rfl rfl (fun _ => ⟨rfl, rfl⟩) h
      refine zitr_ev (G := (fun (g : Int32 × (Nat → Int32) × (Nat → Int32) × Int32 × (Nat → Int32) × (Nat → Int32) × (Nat → Int32) × (Nat → Int32)) => match g with | (x14, x15, x16, x17, x18, x19, x20, x21) => pm_ev C_X11_comes (d + 1) (pm_call M cost zext d) cost (false, false) 108 1 6 Q 17 [some (.ref 0), some (.int a1), some (.int a2), some (.int x14)] [] 0 0 (zS 19 7 I [(26, none, x20), (29, none, x21), (52, none, x19), (53, some 0, fun _ => x17), (53, some 1, fun _ => o8), (53, some 3, fun _ => o4), (54, none, x15), (55, none, x18), (56, none, x16), (57, none, o7)] J [(53, some 2, fun _ => o10)]))) ?_ zFU ((0 : Int32), o3, o5, o6, o9, o11, o12, o13) h
      rintro ⟨x14, x15, x16, x17, x18, x19, x20, x21⟩ h
      refine g_iload_n (pc' := 18)  hc rfl rfl rfl ?_
      refine g_bipush (pc' := 20) (v := (100 : Int32)) hc rfl zkb_100 rfl ?_
      refine g_icmp_gt (pc' := 23) hc rfl rfl (fun hx => ?_) (fun hx => ?_)
      · replace h := zwp_t h hx
        replace h := zwp_r h
        exact h (some (.int x14)) rfl
      · replace h := zwp_f h hx
        refine g_aload_n (pc' := 24)  hc rfl rfl rfl rfl ?_
        refine z_getR (pc' := 27)  hc rfl rfl rfl sh_0 rfl rfl ?_
        refine z_getR (pc' := 30)  hc rfl rfl rfl sh_53 rfl rfl ?_
        refine g_iload_n (pc' := 31)  hc rfl rfl rfl ?_
        have hb := (zwp_bnd h).1
        replace h := (zwp_bnd h).2
        refine z_iaload (pc' := 32) (v := (x15 a1.toNatClampNeg)) hc rfl rfl sh_54 hb rfl rfl ?_
        refine g_iload_n (pc' := 33)  hc rfl rfl rfl ?_
        refine g_icmp_ne (pc' := 36) hc rfl rfl (fun hx => ?_) (fun hx => ?_)
        · replace h := zwp_f h hx
          refine g_aload_n (pc' := 39)  hc rfl rfl rfl rfl ?_
          refine z_virt (as := []) (a := 0) (r := []) hc rfl rfl rfl rfl sh_0 rfl zco_140 rfl rfl rfl ?_
          refine ok_X11_passFuture_0_q (zdp hd rfl) (zwp_mono (zwp_bind h) ?_)
          rintro ⟨o30, o31, o32, o33, o34, o35, o36⟩ h
          refine z_po (pc' := 42) (st' := []) (v := none) (L' := [(26, none, o35), (29, none, o36), (52, none, o34), (53, some 0, fun _ => o32), (53, some 1, fun _ => o8), (53, some 3, fun _ => o4), (54, none, o30), (55, none, o33), (56, none, o31), (57, none, o7)]) (K' := [(53, some 2, fun _ => o10)]) zco_140 rfl rfl rfl rfl rfl rfl rfl rfl ?_
          refine g_iinc (pc' := 45) (ls1 := [some (.ref 0), some (.int a1), some (.int a2), some (.int (x14 + (1 : Int32)))]) hc rfl rfl zki_1 (zlt rfl) rfl rfl ?_
          refine g_goto hc rfl ?_
          replace h := zwp_l h
          exact h
        · replace h := zwp_t h hx
          refine g_iload_n (pc' := 37)  hc rfl rfl rfl ?_
          replace h := zws h
          exact g_ireturn hc rfl rfl rfl (fun _ => ⟨rfl, rfl⟩) h
    · replace h := zws h
      exact z_pox (L' := [(26, none, (I 26)), (29, none, (I 29)), (52, none, (I 52)), (53, some 0, fun _ => (I 53 0)), (53, some 1, fun _ => (I 53 1)), (53, some 3, fun _ => (I 53 3)), (54, none, (I 54)), (55, none, (I 55)), (56, none, (I 56)), (57, none, (I 57))]) (K' := [(53, some 2, fun _ => (J 53 2))]) rfl rfl rfl rfl rfl rfl rfl h
  · replace h := zws h
    exact z_pox (L' := [(26, none, (I 26)), (29, none, (I 29)), (52, none, (I 52)), (53, some 0, fun _ => (I 53 0)), (53, some 1, fun _ => (I 53 1)), (53, some 3, fun _ => (I 53 3)), (54, none, (I 54)), (55, none, (I 55)), (56, none, (I 56)), (57, none, (I 57))]) (K' := [(53, some 2, fun _ => (J 53 2))]) rfl rfl rfl rfl rfl rfl rfl h
set_option maxRecDepth 4000 in
theorem ok_L_comes_0_107_q {I : pI} {J : pJ} {a1 : Int32} {a2 : Int32} {Q : pQ} {d : Nat} (hd : 9 ≤ d) (h : zwp (f_L_comes a1 a2 1 (J 107) (I 54) (I 53 3) (I 56) (I 53 0) (I 57) (I 53 1) (I 55) (J 53 2) (I 52) (I 32) (I 31 3) (I 34) (I 31 0) (I 35) (I 31 1) (I 33) (J 31 2) (I 19 12) (I 19 3) (I 27) (I 25 2) (I 26) (I 19 1) (I 30) (I 28 2) (I 29) (I 24) (I 19 9) (I 21) (I 22) (I 19 0)) (fun w => match w with | (r, o0, o1, o2, o3, o4, o5, o6, o7, o8, o9, o10, o11) => Q (.inl (some (.int r))) (zS 19 7 I [(26, none, o10), (29, none, o11), (52, none, o9), (53, some 0, fun _ => o4), (53, some 1, fun _ => o6), (53, some 3, fun _ => o2), (54, none, o1), (55, none, o7), (56, none, o3), (57, none, o5)] J [(53, some 2, fun _ => o8), (107, none, o0)]))) : pm_call M cost zext d 281 [.ref 0, .int a1, .int a2, .ref 107] (pm_st 108 (shp 19 7) I J) Q := by
  obtain ⟨d, rfl⟩ := zd1 hd rfl
  have hc := pm_call_m (M := M) (cost := cost) zext_m d
  refine z_in (L := [(26, none, (I 26)), (29, none, (I 29)), (52, none, (I 52)), (53, some 0, fun _ => (I 53 0)), (53, some 1, fun _ => (I 53 1)), (53, some 3, fun _ => (I 53 3)), (54, none, (I 54)), (55, none, (I 55)), (56, none, (I 56)), (57, none, (I 57))]) (K := [(53, some 2, fun _ => (J 53 2)), (107, none, (J 107))]) (ls := [some (.ref 0), some (.int a1), some (.int a2), some (.ref 107), none]) zmt_281 zco_281 rfl rfl (zid_a (zid_a (zid_a (zid_s (zid_s (zid_s (zid_a (zid_a (zid_a (zid_a zid_n)))))))))) (zid_s (zid_a zid_n)) ?_
  delta f_L_comes at h
  refine g_aload_n (pc' := 1)  hc rfl rfl rfl rfl ?_
  refine g_iconst (pc' := 2) (v := (0 : Int32)) hc rfl zki_0 rfl ?_
  refine g_aload_n (pc' := 3)  hc rfl rfl rfl rfl ?_
  refine g_iload_n (pc' := 4)  hc rfl rfl rfl ?_
  refine g_iload_n (pc' := 5)  hc rfl rfl rfl ?_
  refine z_virt (as := [.int a1, .int a2]) (a := 0) (r := [.int (0 : Int32), .ref 107]) hc rfl rfl rfl rfl sh_0 rfl zco_110 rfl rfl rfl ?_
  refine ok_X11_comes_0_q (zdp hd rfl) (zwp_mono (zwp_bind h) ?_)
  rintro ⟨(r12 | E13), o1, o2, o3, o4, o5, o6, o7, o8, o9, o10, o11⟩ h
  · refine z_po (pc' := 8) (st' := [.int r12, .int (0 : Int32), .ref 107]) (v := (some (.int r12))) (L' := [(26, none, o10), (29, none, o11), (52, none, o9), (53, some 0, fun _ => o4), (53, some 1, fun _ => o6), (53, some 3, fun _ => o2), (54, none, o1), (55, none, o7), (56, none, o3), (57, none, o5)]) (K' := [(53, some 2, fun _ => o8), (107, none, (J 107))]) zco_110 rfl rfl rfl rfl rfl rfl rfl rfl ?_
    refine g_i2l (pc' := 9)  hc rfl rfl ?_
    have hb := (zwp_bnd h).1
    replace h := (zwp_bnd h).2
    refine z_lastore (pc' := 10) (g := (J 107)) (K' := [(53, some 2, fun _ => o8), (107, none, (vp_updL ((J 107)) (0 : Int32).toNatClampNeg r12.toInt64))]) hc rfl rfl sh_107 hb rfl rfl rfl rfl ?_
    refine g_goto hc rfl ?_
    refine g_iconst (pc' := 18) (v := (0 : Int32)) hc rfl zki_0 rfl ?_
    replace h := zws h
    exact g_ireturn hc rfl rfl rfl (fun _ => ⟨rfl, rfl⟩) h
  · by_cases hE : E13 = x_N
    · replace h := zwp_t h hE
      replace h := zws h
      exact z_poh (L' := [(26, none, o10), (29, none, o11), (52, none, o9), (53, some 0, fun _ => o4), (53, some 1, fun _ => o6), (53, some 3, fun _ => o2), (54, none, o1), (55, none, o7), (56, none, o3), (57, none, o5)]) (K' := [(53, some 2, fun _ => o8), (107, none, (J 107))]) (zhd1 (e := 10) (pc := 5) rfl hE) rfl rfl rfl rfl rfl rfl rfl rfl h
    replace h := zwp_f h hE
    exact (zwn h).elim
set_option maxRecDepth 4000 in
theorem ok_X11_meet_0_q {I : pI} {J : pJ} {a1 : Int32} {a2 : Int32} {Q : pQ} {d : Nat} (hd : 8 ≤ d) (h : zwp (f_X11_meet a1 a2 (I 54) (I 53 3) (I 56) (I 53 0) (I 57) (I 53 1) (I 55) (J 53 2) (I 52) (I 32) (I 31 3) (I 34) (I 31 0) (I 35) (I 31 1) (I 33) (J 31 2) (I 19 12) (I 19 3) (I 27) (I 25 2) (I 26) (I 19 1) (I 30) (I 28 2) (I 29) (I 24) (I 19 9) (I 21) (I 22) (I 19 0)) (fun w => match w with | (.inl r, o0, o1, o2, o3, o4, o5, o6, o7, o8, o9, o10) => Q (.inl (some (.int r))) (zS 19 7 I [(26, none, o9), (29, none, o10), (52, none, o8), (53, some 0, fun _ => o3), (53, some 1, fun _ => o5), (53, some 3, fun _ => o1), (54, none, o0), (55, none, o6), (56, none, o2), (57, none, o4)] J [(53, some 2, fun _ => o7)]) | (.inr E, o0, o1, o2, o3, o4, o5, o6, o7, o8, o9, o10) => Q (.inr E) (zS 19 7 I [(26, none, o9), (29, none, o10), (52, none, o8), (53, some 0, fun _ => o3), (53, some 1, fun _ => o5), (53, some 3, fun _ => o1), (54, none, o0), (55, none, o6), (56, none, o2), (57, none, o4)] J [(53, some 2, fun _ => o7)]))) : pm_call M cost zext d 111 [.ref 0, .int a1, .int a2] (pm_st 108 (shp 19 7) I J) Q := by
  obtain ⟨d, rfl⟩ := zd1 hd rfl
  have hc := pm_call_m (M := M) (cost := cost) zext_m d
  refine z_in (L := [(26, none, (I 26)), (29, none, (I 29)), (52, none, (I 52)), (53, some 0, fun _ => (I 53 0)), (53, some 1, fun _ => (I 53 1)), (53, some 3, fun _ => (I 53 3)), (54, none, (I 54)), (55, none, (I 55)), (56, none, (I 56)), (57, none, (I 57))]) (K := [(53, some 2, fun _ => (J 53 2))]) (ls := [some (.ref 0), some (.int a1), some (.int a2), none]) zmt_111 zco_111 rfl rfl (zid_a (zid_a (zid_a (zid_s (zid_s (zid_s (zid_a (zid_a (zid_a (zid_a zid_n)))))))))) (zid_s zid_n) ?_
  delta f_X11_meet at h
  refine g_aload_n (pc' := 1)  hc rfl rfl rfl rfl ?_
  refine g_iload_n (pc' := 2)  hc rfl rfl rfl ?_
  refine z_virt (as := [.int a1]) (a := 0) (r := []) hc rfl rfl rfl rfl sh_0 rfl zco_133 rfl rfl rfl ?_
  refine ok_X11_checkFigure_0_q (zdp hd rfl) (zwp_mono (zwp_bind h) ?_)
  rintro (⟨⟩ | E1) h
  · refine z_po (pc' := 5) (st' := []) (v := none) (L' := [(26, none, (I 26)), (29, none, (I 29)), (52, none, (I 52)), (53, some 0, fun _ => (I 53 0)), (53, some 1, fun _ => (I 53 1)), (53, some 3, fun _ => (I 53 3)), (54, none, (I 54)), (55, none, (I 55)), (56, none, (I 56)), (57, none, (I 57))]) (K' := [(53, some 2, fun _ => (J 53 2))]) zco_133 rfl rfl rfl rfl rfl rfl rfl rfl ?_
    refine g_aload_n (pc' := 6)  hc rfl rfl rfl rfl ?_
    refine g_iload_n (pc' := 7)  hc rfl rfl rfl ?_
    refine z_virt (as := [.int a2]) (a := 0) (r := []) hc rfl rfl rfl rfl sh_0 rfl zco_133 rfl rfl rfl ?_
    refine ok_X11_checkFigure_0_q (zdp hd rfl) (zwp_mono (zwp_bind h) ?_)
    rintro (⟨⟩ | E2) h
    · refine z_po (pc' := 10) (st' := []) (v := none) (L' := [(26, none, (I 26)), (29, none, (I 29)), (52, none, (I 52)), (53, some 0, fun _ => (I 53 0)), (53, some 1, fun _ => (I 53 1)), (53, some 3, fun _ => (I 53 3)), (54, none, (I 54)), (55, none, (I 55)), (56, none, (I 56)), (57, none, (I 57))]) (K' := [(53, some 2, fun _ => (J 53 2))]) zco_133 rfl rfl rfl rfl rfl rfl rfl rfl ?_
      refine g_iload_n (pc' := 11)  hc rfl rfl rfl ?_
      refine g_iload_n (pc' := 12)  hc rfl rfl rfl ?_
      refine g_icmp_ne (pc' := 15) hc rfl rfl (fun hx => ?_) (fun hx => ?_)
      · replace h := zwp_f h hx
        refine g_aload_n (pc' := 18)  hc rfl rfl rfl rfl ?_
        refine g_iconst (pc' := 19) (v := (0 : Int32)) hc rfl zki_0 rfl ?_
        refine z_virt (as := [.int (0 : Int32)]) (a := 0) (r := []) hc rfl rfl rfl rfl sh_0 rfl zco_139 rfl rfl rfl ?_
        refine ok_X11_foresee_0_q (zdp hd rfl) (zwp_mono (zwp_bind h) ?_)
        rintro ⟨o3, o4, o5, o6, o7, o8, o9, o10, o11, o12, o13⟩ h
        refine z_po (pc' := 22) (st' := []) (v := none) (L' := [(26, none, o12), (29, none, o13), (52, none, o11), (53, some 0, fun _ => o6), (53, some 1, fun _ => o8), (53, some 3, fun _ => o4), (54, none, o3), (55, none, o9), (56, none, o5), (57, none, o7)]) (K' := [(53, some 2, fun _ => o10)]) zco_139 rfl rfl rfl rfl rfl rfl rfl rfl ?_
        refine g_iconst (pc' := 23) (v := (0 : Int32)) hc rfl zki_0 rfl ?_
        refine g_istore_n (pc' := 24) (ls1 := [some (.ref 0), some (.int a1), some (.int a2), some (.int (0 : Int32))]) hc rfl (zlt rfl) rfl rfl ?_
        refine zjs (G := (fun (g : (Nat → Int32) × (Nat → Int32) × Int32 × (Nat → Int32) × (Nat → Int32) × (Nat → Int32) × (Nat → Int32)) => match g with | (y23, y24, y25, y26, y27, y28, y29) => ∀ z22 : Option Value, znl z22 = true → pm_ev C_X11_meet (d + 1) (pm_call M cost zext d) cost (false, false) 108 1 6 Q 63 [some (.ref 0), some (.int a1), some (.int a2), z22] [] 0 0 (zS 19 7 I [(26, none, y28), (29, none, y29), (52, none, y27), (53, some 0, fun _ => y25), (53, some 1, fun _ => o8), (53, some 3, fun _ => o4), (54, none, y23), (55, none, y26), (56, none, y24), (57, none, o7)] J [(53, some 2, fun _ => o10)]))) h ?_ (fun h => ?_)
        · rintro ⟨y23, y24, y25, y26, y27, y28, y29⟩ h z22 hz22
          refine g_iconst (pc' := 64) (v := (-1 : Int32)) hc rfl zki_m1 rfl ?_
          replace h := zws h
          exact g_ireturn hc rfl rfl rfl (fun _ => ⟨rfl, rfl⟩) h
        refine zitr_ev (G := (fun (g : Int32 × (Nat → Int32) × (Nat → Int32) × Int32 × (Nat → Int32) × (Nat → Int32) × (Nat → Int32) × (Nat → Int32)) => match g with | (x14, x15, x16, x17, x18, x19, x20, x21) => pm_ev C_X11_meet (d + 1) (pm_call M cost zext d) cost (false, false) 108 1 6 Q 24 [some (.ref 0), some (.int a1), some (.int a2), some (.int x14)] [] 0 0 (zS 19 7 I [(26, none, x20), (29, none, x21), (52, none, x19), (53, some 0, fun _ => x17), (53, some 1, fun _ => o8), (53, some 3, fun _ => o4), (54, none, x15), (55, none, x18), (56, none, x16), (57, none, o7)] J [(53, some 2, fun _ => o10)]))) ?_ zFU ((0 : Int32), o3, o5, o6, o9, o11, o12, o13) h
        rintro ⟨x14, x15, x16, x17, x18, x19, x20, x21⟩ h
        refine g_iload_n (pc' := 25)  hc rfl rfl rfl ?_
        refine g_bipush (pc' := 27) (v := (100 : Int32)) hc rfl zkb_100 rfl ?_
        refine g_icmp_gt (pc' := 30) hc rfl rfl (fun hx => ?_) (fun hx => ?_)
        · replace h := zwp_t h hx
          replace h := zwp_r h
          exact h (some (.int x14)) rfl
        · replace h := zwp_f h hx
          refine g_aload_n (pc' := 31)  hc rfl rfl rfl rfl ?_
          refine z_getR (pc' := 34)  hc rfl rfl rfl sh_0 rfl rfl ?_
          refine z_getR (pc' := 37)  hc rfl rfl rfl sh_53 rfl rfl ?_
          refine g_iload_n (pc' := 38)  hc rfl rfl rfl ?_
          have hb := (zwp_bnd h).1
          replace h := (zwp_bnd h).2
          refine z_iaload (pc' := 39) (v := (x15 a1.toNatClampNeg)) hc rfl rfl sh_54 hb rfl rfl ?_
          refine g_aload_n (pc' := 40)  hc rfl rfl rfl rfl ?_
          refine z_getR (pc' := 43)  hc rfl rfl rfl sh_0 rfl rfl ?_
          refine z_getR (pc' := 46)  hc rfl rfl rfl sh_53 rfl rfl ?_
          refine g_iload_n (pc' := 47)  hc rfl rfl rfl ?_
          have hb := (zwp_bnd h).1
          replace h := (zwp_bnd h).2
          refine z_iaload (pc' := 48) (v := (x15 a2.toNatClampNeg)) hc rfl rfl sh_54 hb rfl rfl ?_
          refine g_icmp_ne (pc' := 51) hc rfl rfl (fun hx => ?_) (fun hx => ?_)
          · replace h := zwp_f h hx
            refine g_aload_n (pc' := 54)  hc rfl rfl rfl rfl ?_
            refine z_virt (as := []) (a := 0) (r := []) hc rfl rfl rfl rfl sh_0 rfl zco_140 rfl rfl rfl ?_
            refine ok_X11_passFuture_0_q (zdp hd rfl) (zwp_mono (zwp_bind h) ?_)
            rintro ⟨o30, o31, o32, o33, o34, o35, o36⟩ h
            refine z_po (pc' := 57) (st' := []) (v := none) (L' := [(26, none, o35), (29, none, o36), (52, none, o34), (53, some 0, fun _ => o32), (53, some 1, fun _ => o8), (53, some 3, fun _ => o4), (54, none, o30), (55, none, o33), (56, none, o31), (57, none, o7)]) (K' := [(53, some 2, fun _ => o10)]) zco_140 rfl rfl rfl rfl rfl rfl rfl rfl ?_
            refine g_iinc (pc' := 60) (ls1 := [some (.ref 0), some (.int a1), some (.int a2), some (.int (x14 + (1 : Int32)))]) hc rfl rfl zki_1 (zlt rfl) rfl rfl ?_
            refine g_goto hc rfl ?_
            replace h := zwp_l h
            exact h
          · replace h := zwp_t h hx
            refine g_iload_n (pc' := 52)  hc rfl rfl rfl ?_
            replace h := zws h
            exact g_ireturn hc rfl rfl rfl (fun _ => ⟨rfl, rfl⟩) h
      · replace h := zwp_t h hx
        refine g_iconst (pc' := 16) (v := (-1 : Int32)) hc rfl zki_m1 rfl ?_
        replace h := zws h
        exact g_ireturn hc rfl rfl rfl (fun _ => ⟨rfl, rfl⟩) h
    · replace h := zws h
      exact z_pox (L' := [(26, none, (I 26)), (29, none, (I 29)), (52, none, (I 52)), (53, some 0, fun _ => (I 53 0)), (53, some 1, fun _ => (I 53 1)), (53, some 3, fun _ => (I 53 3)), (54, none, (I 54)), (55, none, (I 55)), (56, none, (I 56)), (57, none, (I 57))]) (K' := [(53, some 2, fun _ => (J 53 2))]) rfl rfl rfl rfl rfl rfl rfl h
  · replace h := zws h
    exact z_pox (L' := [(26, none, (I 26)), (29, none, (I 29)), (52, none, (I 52)), (53, some 0, fun _ => (I 53 0)), (53, some 1, fun _ => (I 53 1)), (53, some 3, fun _ => (I 53 3)), (54, none, (I 54)), (55, none, (I 55)), (56, none, (I 56)), (57, none, (I 57))]) (K' := [(53, some 2, fun _ => (J 53 2))]) rfl rfl rfl rfl rfl rfl rfl h
set_option maxRecDepth 4000 in
theorem ok_L_meet_0_107_q {I : pI} {J : pJ} {a1 : Int32} {a2 : Int32} {Q : pQ} {d : Nat} (hd : 9 ≤ d) (h : zwp (f_L_meet a1 a2 1 (J 107) (I 54) (I 53 3) (I 56) (I 53 0) (I 57) (I 53 1) (I 55) (J 53 2) (I 52) (I 32) (I 31 3) (I 34) (I 31 0) (I 35) (I 31 1) (I 33) (J 31 2) (I 19 12) (I 19 3) (I 27) (I 25 2) (I 26) (I 19 1) (I 30) (I 28 2) (I 29) (I 24) (I 19 9) (I 21) (I 22) (I 19 0)) (fun w => match w with | (r, o0, o1, o2, o3, o4, o5, o6, o7, o8, o9, o10, o11) => Q (.inl (some (.int r))) (zS 19 7 I [(26, none, o10), (29, none, o11), (52, none, o9), (53, some 0, fun _ => o4), (53, some 1, fun _ => o6), (53, some 3, fun _ => o2), (54, none, o1), (55, none, o7), (56, none, o3), (57, none, o5)] J [(53, some 2, fun _ => o8), (107, none, o0)]))) : pm_call M cost zext d 282 [.ref 0, .int a1, .int a2, .ref 107] (pm_st 108 (shp 19 7) I J) Q := by
  obtain ⟨d, rfl⟩ := zd1 hd rfl
  have hc := pm_call_m (M := M) (cost := cost) zext_m d
  refine z_in (L := [(26, none, (I 26)), (29, none, (I 29)), (52, none, (I 52)), (53, some 0, fun _ => (I 53 0)), (53, some 1, fun _ => (I 53 1)), (53, some 3, fun _ => (I 53 3)), (54, none, (I 54)), (55, none, (I 55)), (56, none, (I 56)), (57, none, (I 57))]) (K := [(53, some 2, fun _ => (J 53 2)), (107, none, (J 107))]) (ls := [some (.ref 0), some (.int a1), some (.int a2), some (.ref 107), none]) zmt_282 zco_282 rfl rfl (zid_a (zid_a (zid_a (zid_s (zid_s (zid_s (zid_a (zid_a (zid_a (zid_a zid_n)))))))))) (zid_s (zid_a zid_n)) ?_
  delta f_L_meet at h
  refine g_aload_n (pc' := 1)  hc rfl rfl rfl rfl ?_
  refine g_iconst (pc' := 2) (v := (0 : Int32)) hc rfl zki_0 rfl ?_
  refine g_aload_n (pc' := 3)  hc rfl rfl rfl rfl ?_
  refine g_iload_n (pc' := 4)  hc rfl rfl rfl ?_
  refine g_iload_n (pc' := 5)  hc rfl rfl rfl ?_
  refine z_virt (as := [.int a1, .int a2]) (a := 0) (r := [.int (0 : Int32), .ref 107]) hc rfl rfl rfl rfl sh_0 rfl zco_111 rfl rfl rfl ?_
  refine ok_X11_meet_0_q (zdp hd rfl) (zwp_mono (zwp_bind h) ?_)
  rintro ⟨(r12 | E13), o1, o2, o3, o4, o5, o6, o7, o8, o9, o10, o11⟩ h
  · refine z_po (pc' := 8) (st' := [.int r12, .int (0 : Int32), .ref 107]) (v := (some (.int r12))) (L' := [(26, none, o10), (29, none, o11), (52, none, o9), (53, some 0, fun _ => o4), (53, some 1, fun _ => o6), (53, some 3, fun _ => o2), (54, none, o1), (55, none, o7), (56, none, o3), (57, none, o5)]) (K' := [(53, some 2, fun _ => o8), (107, none, (J 107))]) zco_111 rfl rfl rfl rfl rfl rfl rfl rfl ?_
    refine g_i2l (pc' := 9)  hc rfl rfl ?_
    have hb := (zwp_bnd h).1
    replace h := (zwp_bnd h).2
    refine z_lastore (pc' := 10) (g := (J 107)) (K' := [(53, some 2, fun _ => o8), (107, none, (vp_updL ((J 107)) (0 : Int32).toNatClampNeg r12.toInt64))]) hc rfl rfl sh_107 hb rfl rfl rfl rfl ?_
    refine g_goto hc rfl ?_
    refine g_iconst (pc' := 18) (v := (0 : Int32)) hc rfl zki_0 rfl ?_
    replace h := zws h
    exact g_ireturn hc rfl rfl rfl (fun _ => ⟨rfl, rfl⟩) h
  · by_cases hE : E13 = x_N
    · replace h := zwp_t h hE
      replace h := zws h
      exact z_poh (L' := [(26, none, o10), (29, none, o11), (52, none, o9), (53, some 0, fun _ => o4), (53, some 1, fun _ => o6), (53, some 3, fun _ => o2), (54, none, o1), (55, none, o7), (56, none, o3), (57, none, o5)]) (K' := [(53, some 2, fun _ => o8), (107, none, (J 107))]) (zhd1 (e := 10) (pc := 5) rfl hE) rfl rfl rfl rfl rfl rfl rfl rfl h
    replace h := zwp_f h hE
    exact (zwn h).elim
set_option maxRecDepth 4000 in
theorem ok_X11_crowd_0_q {I : pI} {J : pJ} {a1 : Int32} {a2 : Int32} {Q : pQ} {d : Nat} (hd : 8 ≤ d) (h : zwp (f_X11_crowd a1 a2 (I 54) (I 53 3) (I 56) (I 53 0) (I 57) (I 53 1) (I 55) (J 53 2) (I 52) (I 32) (I 31 3) (I 34) (I 31 0) (I 35) (I 31 1) (I 33) (J 31 2) (I 19 12) (I 19 3) (I 27) (I 25 2) (I 26) (I 19 1) (I 30) (I 28 2) (I 29) (I 24) (I 19 9) (I 21) (I 22) (I 19 0)) (fun w => match w with | (.inl r, o0, o1, o2, o3, o4, o5, o6, o7, o8, o9, o10) => Q (.inl (some (.int r))) (zS 19 7 I [(26, none, o9), (29, none, o10), (52, none, o8), (53, some 0, fun _ => o3), (53, some 1, fun _ => o5), (53, some 3, fun _ => o1), (54, none, o0), (55, none, o6), (56, none, o2), (57, none, o4)] J [(53, some 2, fun _ => o7)]) | (.inr E, o0, o1, o2, o3, o4, o5, o6, o7, o8, o9, o10) => Q (.inr E) (zS 19 7 I [(26, none, o9), (29, none, o10), (52, none, o8), (53, some 0, fun _ => o3), (53, some 1, fun _ => o5), (53, some 3, fun _ => o1), (54, none, o0), (55, none, o6), (56, none, o2), (57, none, o4)] J [(53, some 2, fun _ => o7)]))) : pm_call M cost zext d 112 [.ref 0, .int a1, .int a2] (pm_st 108 (shp 19 7) I J) Q := by
  obtain ⟨d, rfl⟩ := zd1 hd rfl
  have hc := pm_call_m (M := M) (cost := cost) zext_m d
  refine z_in (L := [(26, none, (I 26)), (29, none, (I 29)), (52, none, (I 52)), (53, some 0, fun _ => (I 53 0)), (53, some 1, fun _ => (I 53 1)), (53, some 3, fun _ => (I 53 3)), (54, none, (I 54)), (55, none, (I 55)), (56, none, (I 56)), (57, none, (I 57))]) (K := [(53, some 2, fun _ => (J 53 2))]) (ls := [some (.ref 0), some (.int a1), some (.int a2), none, none, none, none]) zmt_112 zco_112 rfl rfl (zid_a (zid_a (zid_a (zid_s (zid_s (zid_s (zid_a (zid_a (zid_a (zid_a zid_n)))))))))) (zid_s zid_n) ?_
  delta f_X11_crowd at h
  refine g_iload_n (pc' := 1)  hc rfl rfl rfl ?_
  refine g_iconst (pc' := 2) (v := (1 : Int32)) hc rfl zki_1 rfl ?_
  refine z_stat (as := [.int a2, .int (1 : Int32)]) (r := []) hc rfl rfl rfl rfl zco_135 rfl rfl rfl ?_
  refine ok_X11_checkWhat (zdp hd rfl) (zwp_mono (zwp_bind h) ?_)
  rintro (⟨⟩ | E1) h
  · refine z_po (pc' := 5) (st' := []) (v := none) (L' := [(26, none, (I 26)), (29, none, (I 29)), (52, none, (I 52)), (53, some 0, fun _ => (I 53 0)), (53, some 1, fun _ => (I 53 1)), (53, some 3, fun _ => (I 53 3)), (54, none, (I 54)), (55, none, (I 55)), (56, none, (I 56)), (57, none, (I 57))]) (K' := [(53, some 2, fun _ => (J 53 2))]) zco_135 rfl rfl rfl rfl rfl rfl rfl rfl ?_
    refine g_iload_n (pc' := 6)  hc rfl rfl rfl ?_
    refine g_iconst (pc' := 7) (v := (0 : Int32)) hc rfl zki_0 rfl ?_
    refine g_bipush (pc' := 9) (v := (100 : Int32)) hc rfl zkb_100 rfl ?_
    refine z_stat (as := [.int a1, .int (0 : Int32), .int (100 : Int32)]) (r := []) hc rfl rfl rfl rfl zco_136 rfl rfl rfl ?_
    refine ok_X11_checkHours (zdp hd rfl) (zwp_mono (zwp_bind h) ?_)
    rintro (⟨⟩ | E2) h
    · refine z_po (pc' := 12) (st' := []) (v := none) (L' := [(26, none, (I 26)), (29, none, (I 29)), (52, none, (I 52)), (53, some 0, fun _ => (I 53 0)), (53, some 1, fun _ => (I 53 1)), (53, some 3, fun _ => (I 53 3)), (54, none, (I 54)), (55, none, (I 55)), (56, none, (I 56)), (57, none, (I 57))]) (K' := [(53, some 2, fun _ => (J 53 2))]) zco_136 rfl rfl rfl rfl rfl rfl rfl rfl ?_
      refine g_aload_n (pc' := 13)  hc rfl rfl rfl rfl ?_
      refine g_iload_n (pc' := 14)  hc rfl rfl rfl ?_
      refine z_virt (as := [.int a1]) (a := 0) (r := []) hc rfl rfl rfl rfl sh_0 rfl zco_139 rfl rfl rfl ?_
      refine ok_X11_foresee_0_q (zdp hd rfl) (zwp_mono (zwp_bind h) ?_)
      rintro ⟨o3, o4, o5, o6, o7, o8, o9, o10, o11, o12, o13⟩ h
      refine z_po (pc' := 17) (st' := []) (v := none) (L' := [(26, none, o12), (29, none, o13), (52, none, o11), (53, some 0, fun _ => o6), (53, some 1, fun _ => o8), (53, some 3, fun _ => o4), (54, none, o3), (55, none, o9), (56, none, o5), (57, none, o7)]) (K' := [(53, some 2, fun _ => o10)]) zco_139 rfl rfl rfl rfl rfl rfl rfl rfl ?_
      refine g_iconst (pc' := 18) (v := (0 : Int32)) hc rfl zki_0 rfl ?_
      refine g_istore_n (pc' := 19) (ls1 := [some (.ref 0), some (.int a1), some (.int a2), some (.int (0 : Int32)), none, none, none]) hc rfl (zlt rfl) rfl rfl ?_
      refine g_iconst (pc' := 20) (v := (-1 : Int32)) hc rfl zki_m1 rfl ?_
      refine g_istore (pc' := 22) (ls1 := [some (.ref 0), some (.int a1), some (.int a2), some (.int (0 : Int32)), some (.int (-1 : Int32)), none, none]) hc rfl (zlt rfl) rfl rfl ?_
      refine g_iconst (pc' := 23) (v := (0 : Int32)) hc rfl zki_0 rfl ?_
      refine g_istore (pc' := 25) (ls1 := [some (.ref 0), some (.int a1), some (.int a2), some (.int (0 : Int32)), some (.int (-1 : Int32)), some (.int (0 : Int32)), none]) hc rfl (zlt rfl) rfl rfl ?_
      refine zjn (G := (fun (g : Int32 × Int32) => match g with | (y18, y19) => ∀ z20 : Option Value, znl z20 = true → ∀ z21 : Option Value, znl z21 = true → pm_ev C_X11_crowd (d + 1) (pm_call M cost zext d) cost (false, false) 108 1 6 Q 70 [some (.ref 0), some (.int a1), some (.int a2), some (.int y18), some (.int y19), z20, z21] [] 0 0 (zS 19 7 I [(26, none, o12), (29, none, o13), (52, none, o11), (53, some 0, fun _ => o6), (53, some 1, fun _ => o8), (53, some 3, fun _ => o4), (54, none, o3), (55, none, o9), (56, none, o5), (57, none, o7)] J [(53, some 2, fun _ => o10)]))) (zwp_bind h) ?_ (fun h => ?_)
      · rintro ⟨y18, y19⟩ h z20 hz20 z21 hz21
        refine g_iload_n (pc' := 71)  hc rfl rfl rfl ?_
        refine g_if_ne (pc' := 74) hc rfl rfl (fun hx => ?_) (fun hx => ?_)
        · replace h := zwp_f h hx
          refine g_iload (pc' := 80)  hc rfl rfl rfl ?_
          replace h := zws h
          exact g_ireturn hc rfl rfl rfl (fun _ => ⟨rfl, rfl⟩) h
        · replace h := zwp_t h hx
          refine g_iload_n (pc' := 75)  hc rfl rfl rfl ?_
          refine g_goto hc rfl ?_
          replace h := zws h
          exact g_ireturn hc rfl rfl rfl (fun _ => ⟨rfl, rfl⟩) h
      refine zitr_ev (G := (fun (g : Int32 × Int32 × Int32) => match g with | (x14, x15, x16) => ∀ z17 : Option Value, znl z17 = true → pm_ev C_X11_crowd (d + 1) (pm_call M cost zext d) cost (false, false) 108 1 6 Q 25 [some (.ref 0), some (.int a1), some (.int a2), some (.int x14), some (.int x15), some (.int x16), z17] [] 0 0 (zS 19 7 I [(26, none, o12), (29, none, o13), (52, none, o11), (53, some 0, fun _ => o6), (53, some 1, fun _ => o8), (53, some 3, fun _ => o4), (54, none, o3), (55, none, o9), (56, none, o5), (57, none, o7)] J [(53, some 2, fun _ => o10)]))) ?_ zFU ((0 : Int32), (-1 : Int32), (0 : Int32)) h none rfl
      rintro ⟨x14, x15, x16⟩ h z17 hz17
      refine g_iload (pc' := 27)  hc rfl rfl rfl ?_
      refine g_aload_n (pc' := 28)  hc rfl rfl rfl rfl ?_
      refine z_getR (pc' := 31)  hc rfl rfl rfl sh_0 rfl rfl ?_
      refine z_virt (as := []) (a := 19) (r := [.int x16]) hc rfl rfl rfl rfl sh_19 rfl zco_21 rfl rfl rfl ?_
      refine ok_X3_cells_19 (zdp hd rfl) (zwp_mono (zwp_bind h) ?_)
      rintro r22 h
      refine z_po (pc' := 34) (st' := [.int r22, .int x16]) (v := (some (.int r22))) (L' := [(26, none, o12), (29, none, o13), (52, none, o11), (53, some 0, fun _ => o6), (53, some 1, fun _ => o8), (53, some 3, fun _ => o4), (54, none, o3), (55, none, o9), (56, none, o5), (57, none, o7)]) (K' := [(53, some 2, fun _ => o10)]) zco_21 rfl rfl rfl rfl rfl rfl rfl rfl ?_
      refine g_icmp_ge (pc' := 37) hc rfl rfl (fun hx => ?_) (fun hx => ?_)
      · replace h := zwp_t h hx
        replace h := zwp_r h
        exact h (some (.int x16)) rfl z17 hz17
      · replace h := zwp_f h hx
        refine g_aload_n (pc' := 38)  hc rfl rfl rfl rfl ?_
        refine z_getR (pc' := 41)  hc rfl rfl rfl sh_0 rfl rfl ?_
        refine g_iload (pc' := 43)  hc rfl rfl rfl ?_
        refine z_virt (as := [.int x16]) (a := 53) (r := []) hc rfl rfl rfl rfl sh_53 rfl zco_72 rfl rfl rfl ?_
        refine ok_X8_figuresAt_53 (zdp hd rfl) (zwp_mono (zwp_bind h) ?_)
        rintro r23 h
        refine z_po (pc' := 46) (st' := [.int r23]) (v := (some (.int r23))) (L' := [(26, none, o12), (29, none, o13), (52, none, o11), (53, some 0, fun _ => o6), (53, some 1, fun _ => o8), (53, some 3, fun _ => o4), (54, none, o3), (55, none, o9), (56, none, o5), (57, none, o7)]) (K' := [(53, some 2, fun _ => o10)]) zco_72 rfl rfl rfl rfl rfl rfl rfl rfl ?_
        refine z_stat (as := [.int r23]) (r := []) hc rfl rfl rfl rfl zco_265 rfl rfl rfl ?_
        refine ok_J6_bitCount_0f7a4 (zdp hd rfl) (zwp_mono (zwp_bind h) ?_)
        rintro r24 h
        refine z_po (pc' := 49) (st' := [.int r24]) (v := (some (.int r24))) (L' := [(26, none, o12), (29, none, o13), (52, none, o11), (53, some 0, fun _ => o6), (53, some 1, fun _ => o8), (53, some 3, fun _ => o4), (54, none, o3), (55, none, o9), (56, none, o5), (57, none, o7)]) (K' := [(53, some 2, fun _ => o10)]) zco_265 rfl rfl rfl rfl rfl rfl rfl rfl ?_
        refine g_istore (pc' := 51) (ls1 := [some (.ref 0), some (.int a1), some (.int a2), some (.int x14), some (.int x15), some (.int x16), some (.int r24)]) hc rfl (zlt rfl) rfl rfl ?_
        refine g_iload (pc' := 53)  hc rfl rfl rfl ?_
        refine g_iload_n (pc' := 54)  hc rfl rfl rfl ?_
        refine g_icmp_le (pc' := 57) hc rfl rfl (fun hx => ?_) (fun hx => ?_)
        · replace h := zwp_t h hx
          refine g_iinc (pc' := 67) (ls1 := [some (.ref 0), some (.int a1), some (.int a2), some (.int x14), some (.int x15), some (.int (x16 + (1 : Int32))), some (.int r24)]) hc rfl rfl zki_1 (zlt rfl) rfl rfl ?_
          refine g_goto hc rfl ?_
          replace h := zwp_l h
          exact h (some (.int r24)) rfl
        · replace h := zwp_f h hx
          refine g_iload (pc' := 59)  hc rfl rfl rfl ?_
          refine g_istore_n (pc' := 60) (ls1 := [some (.ref 0), some (.int a1), some (.int a2), some (.int r24), some (.int x15), some (.int x16), some (.int r24)]) hc rfl (zlt rfl) rfl rfl ?_
          refine g_iload (pc' := 62)  hc rfl rfl rfl ?_
          refine g_istore (pc' := 64) (ls1 := [some (.ref 0), some (.int a1), some (.int a2), some (.int r24), some (.int x16), some (.int x16), some (.int r24)]) hc rfl (zlt rfl) rfl rfl ?_
          refine g_iinc (pc' := 67) (ls1 := [some (.ref 0), some (.int a1), some (.int a2), some (.int r24), some (.int x16), some (.int (x16 + (1 : Int32))), some (.int r24)]) hc rfl rfl zki_1 (zlt rfl) rfl rfl ?_
          refine g_goto hc rfl ?_
          replace h := zwp_l h
          exact h (some (.int r24)) rfl
    · replace h := zws h
      exact z_pox (L' := [(26, none, (I 26)), (29, none, (I 29)), (52, none, (I 52)), (53, some 0, fun _ => (I 53 0)), (53, some 1, fun _ => (I 53 1)), (53, some 3, fun _ => (I 53 3)), (54, none, (I 54)), (55, none, (I 55)), (56, none, (I 56)), (57, none, (I 57))]) (K' := [(53, some 2, fun _ => (J 53 2))]) rfl rfl rfl rfl rfl rfl rfl h
  · replace h := zws h
    exact z_pox (L' := [(26, none, (I 26)), (29, none, (I 29)), (52, none, (I 52)), (53, some 0, fun _ => (I 53 0)), (53, some 1, fun _ => (I 53 1)), (53, some 3, fun _ => (I 53 3)), (54, none, (I 54)), (55, none, (I 55)), (56, none, (I 56)), (57, none, (I 57))]) (K' := [(53, some 2, fun _ => (J 53 2))]) rfl rfl rfl rfl rfl rfl rfl h
set_option maxRecDepth 4000 in
theorem ok_L_crowd_0_107_q {I : pI} {J : pJ} {a1 : Int32} {a2 : Int32} {Q : pQ} {d : Nat} (hd : 9 ≤ d) (h : zwp (f_L_crowd a1 a2 1 (J 107) (I 54) (I 53 3) (I 56) (I 53 0) (I 57) (I 53 1) (I 55) (J 53 2) (I 52) (I 32) (I 31 3) (I 34) (I 31 0) (I 35) (I 31 1) (I 33) (J 31 2) (I 19 12) (I 19 3) (I 27) (I 25 2) (I 26) (I 19 1) (I 30) (I 28 2) (I 29) (I 24) (I 19 9) (I 21) (I 22) (I 19 0)) (fun w => match w with | (r, o0, o1, o2, o3, o4, o5, o6, o7, o8, o9, o10, o11) => Q (.inl (some (.int r))) (zS 19 7 I [(26, none, o10), (29, none, o11), (52, none, o9), (53, some 0, fun _ => o4), (53, some 1, fun _ => o6), (53, some 3, fun _ => o2), (54, none, o1), (55, none, o7), (56, none, o3), (57, none, o5)] J [(53, some 2, fun _ => o8), (107, none, o0)]))) : pm_call M cost zext d 283 [.ref 0, .int a1, .int a2, .ref 107] (pm_st 108 (shp 19 7) I J) Q := by
  obtain ⟨d, rfl⟩ := zd1 hd rfl
  have hc := pm_call_m (M := M) (cost := cost) zext_m d
  refine z_in (L := [(26, none, (I 26)), (29, none, (I 29)), (52, none, (I 52)), (53, some 0, fun _ => (I 53 0)), (53, some 1, fun _ => (I 53 1)), (53, some 3, fun _ => (I 53 3)), (54, none, (I 54)), (55, none, (I 55)), (56, none, (I 56)), (57, none, (I 57))]) (K := [(53, some 2, fun _ => (J 53 2)), (107, none, (J 107))]) (ls := [some (.ref 0), some (.int a1), some (.int a2), some (.ref 107), none]) zmt_283 zco_283 rfl rfl (zid_a (zid_a (zid_a (zid_s (zid_s (zid_s (zid_a (zid_a (zid_a (zid_a zid_n)))))))))) (zid_s (zid_a zid_n)) ?_
  delta f_L_crowd at h
  refine g_aload_n (pc' := 1)  hc rfl rfl rfl rfl ?_
  refine g_iconst (pc' := 2) (v := (0 : Int32)) hc rfl zki_0 rfl ?_
  refine g_aload_n (pc' := 3)  hc rfl rfl rfl rfl ?_
  refine g_iload_n (pc' := 4)  hc rfl rfl rfl ?_
  refine g_iload_n (pc' := 5)  hc rfl rfl rfl ?_
  refine z_virt (as := [.int a1, .int a2]) (a := 0) (r := [.int (0 : Int32), .ref 107]) hc rfl rfl rfl rfl sh_0 rfl zco_112 rfl rfl rfl ?_
  refine ok_X11_crowd_0_q (zdp hd rfl) (zwp_mono (zwp_bind h) ?_)
  rintro ⟨(r12 | E13), o1, o2, o3, o4, o5, o6, o7, o8, o9, o10, o11⟩ h
  · refine z_po (pc' := 8) (st' := [.int r12, .int (0 : Int32), .ref 107]) (v := (some (.int r12))) (L' := [(26, none, o10), (29, none, o11), (52, none, o9), (53, some 0, fun _ => o4), (53, some 1, fun _ => o6), (53, some 3, fun _ => o2), (54, none, o1), (55, none, o7), (56, none, o3), (57, none, o5)]) (K' := [(53, some 2, fun _ => o8), (107, none, (J 107))]) zco_112 rfl rfl rfl rfl rfl rfl rfl rfl ?_
    refine g_i2l (pc' := 9)  hc rfl rfl ?_
    have hb := (zwp_bnd h).1
    replace h := (zwp_bnd h).2
    refine z_lastore (pc' := 10) (g := (J 107)) (K' := [(53, some 2, fun _ => o8), (107, none, (vp_updL ((J 107)) (0 : Int32).toNatClampNeg r12.toInt64))]) hc rfl rfl sh_107 hb rfl rfl rfl rfl ?_
    refine g_goto hc rfl ?_
    refine g_iconst (pc' := 22) (v := (0 : Int32)) hc rfl zki_0 rfl ?_
    replace h := zws h
    exact g_ireturn hc rfl rfl rfl (fun _ => ⟨rfl, rfl⟩) h
  · by_cases hE : E13 = x_N
    · replace h := zwp_t h hE
      replace h := zws h
      exact z_poh (L' := [(26, none, o10), (29, none, o11), (52, none, o9), (53, some 0, fun _ => o4), (53, some 1, fun _ => o6), (53, some 3, fun _ => o2), (54, none, o1), (55, none, o7), (56, none, o3), (57, none, o5)]) (K' := [(53, some 2, fun _ => o8), (107, none, (J 107))]) (zhd2a (e := 10) (pc := 5) rfl hE) rfl rfl rfl rfl rfl rfl rfl rfl h
    replace h := zwp_f h hE
    have hN := hE
    by_cases hE : E13 = x_I
    · replace h := zwp_t h hE
      replace h := zws h
      exact z_poh (L' := [(26, none, o10), (29, none, o11), (52, none, o9), (53, some 0, fun _ => o4), (53, some 1, fun _ => o6), (53, some 3, fun _ => o2), (54, none, o1), (55, none, o7), (56, none, o3), (57, none, o5)]) (K' := [(53, some 2, fun _ => o8), (107, none, (J 107))]) (zhd2b (e := 10) (pc := 5) rfl hN hE) rfl rfl rfl rfl rfl rfl rfl rfl h
    replace h := zwp_f h hE
    exact (zwn h).elim
set_option maxRecDepth 4000 in
theorem ok_X11_spread_0_q {I : pI} {J : pJ} {a1 : Int32} {a2 : Int32} {Q : pQ} {d : Nat} (hd : 8 ≤ d) (h : zwp (f_X11_spread a1 a2 (I 54) (I 53 3) (I 56) (I 53 0) (I 57) (I 53 1) (I 55) (J 53 2) (I 52) (I 32) (I 31 3) (I 34) (I 31 0) (I 35) (I 31 1) (I 33) (J 31 2) (I 19 12) (I 19 3) (I 27) (I 25 2) (I 26) (I 19 1) (I 30) (I 28 2) (I 29) (I 24) (I 19 9) (I 21) (I 22) (I 19 0)) (fun w => match w with | (.inl r, o0, o1, o2, o3, o4, o5, o6, o7, o8, o9, o10) => Q (.inl (some (.int r))) (zS 19 7 I [(26, none, o9), (29, none, o10), (52, none, o8), (53, some 0, fun _ => o3), (53, some 1, fun _ => o5), (53, some 3, fun _ => o1), (54, none, o0), (55, none, o6), (56, none, o2), (57, none, o4)] J [(53, some 2, fun _ => o7)]) | (.inr E, o0, o1, o2, o3, o4, o5, o6, o7, o8, o9, o10) => Q (.inr E) (zS 19 7 I [(26, none, o9), (29, none, o10), (52, none, o8), (53, some 0, fun _ => o3), (53, some 1, fun _ => o5), (53, some 3, fun _ => o1), (54, none, o0), (55, none, o6), (56, none, o2), (57, none, o4)] J [(53, some 2, fun _ => o7)]))) : pm_call M cost zext d 114 [.ref 0, .int a1, .int a2] (pm_st 108 (shp 19 7) I J) Q := by
  obtain ⟨d, rfl⟩ := zd1 hd rfl
  have hc := pm_call_m (M := M) (cost := cost) zext_m d
  refine z_in (L := [(26, none, (I 26)), (29, none, (I 29)), (52, none, (I 52)), (53, some 0, fun _ => (I 53 0)), (53, some 1, fun _ => (I 53 1)), (53, some 3, fun _ => (I 53 3)), (54, none, (I 54)), (55, none, (I 55)), (56, none, (I 56)), (57, none, (I 57))]) (K := [(53, some 2, fun _ => (J 53 2))]) (ls := [some (.ref 0), some (.int a1), some (.int a2), none, none, none]) zmt_114 zco_114 rfl rfl (zid_a (zid_a (zid_a (zid_s (zid_s (zid_s (zid_a (zid_a (zid_a (zid_a zid_n)))))))))) (zid_s zid_n) ?_
  delta f_X11_spread at h
  refine g_aload_n (pc' := 1)  hc rfl rfl rfl rfl ?_
  refine g_iload_n (pc' := 2)  hc rfl rfl rfl ?_
  refine z_virt (as := [.int a1]) (a := 0) (r := []) hc rfl rfl rfl rfl sh_0 rfl zco_133 rfl rfl rfl ?_
  refine ok_X11_checkFigure_0_q (zdp hd rfl) (zwp_mono (zwp_bind h) ?_)
  rintro (⟨⟩ | E1) h
  · refine z_po (pc' := 5) (st' := []) (v := none) (L' := [(26, none, (I 26)), (29, none, (I 29)), (52, none, (I 52)), (53, some 0, fun _ => (I 53 0)), (53, some 1, fun _ => (I 53 1)), (53, some 3, fun _ => (I 53 3)), (54, none, (I 54)), (55, none, (I 55)), (56, none, (I 56)), (57, none, (I 57))]) (K' := [(53, some 2, fun _ => (J 53 2))]) zco_133 rfl rfl rfl rfl rfl rfl rfl rfl ?_
    refine g_iload_n (pc' := 6)  hc rfl rfl rfl ?_
    refine g_iconst (pc' := 7) (v := (0 : Int32)) hc rfl zki_0 rfl ?_
    refine g_bipush (pc' := 9) (v := (100 : Int32)) hc rfl zkb_100 rfl ?_
    refine z_stat (as := [.int a2, .int (0 : Int32), .int (100 : Int32)]) (r := []) hc rfl rfl rfl rfl zco_136 rfl rfl rfl ?_
    refine ok_X11_checkHours (zdp hd rfl) (zwp_mono (zwp_bind h) ?_)
    rintro (⟨⟩ | E2) h
    · refine z_po (pc' := 12) (st' := []) (v := none) (L' := [(26, none, (I 26)), (29, none, (I 29)), (52, none, (I 52)), (53, some 0, fun _ => (I 53 0)), (53, some 1, fun _ => (I 53 1)), (53, some 3, fun _ => (I 53 3)), (54, none, (I 54)), (55, none, (I 55)), (56, none, (I 56)), (57, none, (I 57))]) (K' := [(53, some 2, fun _ => (J 53 2))]) zco_136 rfl rfl rfl rfl rfl rfl rfl rfl ?_
      refine g_aload_n (pc' := 13)  hc rfl rfl rfl rfl ?_
      refine g_iconst (pc' := 14) (v := (0 : Int32)) hc rfl zki_0 rfl ?_
      refine z_virt (as := [.int (0 : Int32)]) (a := 0) (r := []) hc rfl rfl rfl rfl sh_0 rfl zco_139 rfl rfl rfl ?_
      refine ok_X11_foresee_0_q (zdp hd rfl) (zwp_mono (zwp_bind h) ?_)
      rintro ⟨o3, o4, o5, o6, o7, o8, o9, o10, o11, o12, o13⟩ h
      refine z_po (pc' := 17) (st' := []) (v := none) (L' := [(26, none, o12), (29, none, o13), (52, none, o11), (53, some 0, fun _ => o6), (53, some 1, fun _ => o8), (53, some 3, fun _ => o4), (54, none, o3), (55, none, o9), (56, none, o5), (57, none, o7)]) (K' := [(53, some 2, fun _ => o10)]) zco_139 rfl rfl rfl rfl rfl rfl rfl rfl ?_
      refine g_lconst (pc' := 18) (v := (1 : Int64)) hc rfl zkl_1 rfl ?_
      refine g_aload_n (pc' := 19)  hc rfl rfl rfl rfl ?_
      refine z_getR (pc' := 22)  hc rfl rfl rfl sh_0 rfl rfl ?_
      refine z_getR (pc' := 25)  hc rfl rfl rfl sh_53 rfl rfl ?_
      refine g_iload_n (pc' := 26)  hc rfl rfl rfl ?_
      have hb := (zwp_bnd h).1
      replace h := (zwp_bnd h).2
      refine z_iaload (pc' := 27) (v := (o3 a1.toNatClampNeg)) hc rfl rfl sh_54 hb rfl rfl ?_
      refine g_lshl (pc' := 28)  hc rfl rfl ?_
      refine g_lstore_n (pc' := 29) (ls1 := [some (.ref 0), some (.int a1), some (.int a2), some (.long ((1 : Int64) <<< ((o3 a1.toNatClampNeg).toInt64 &&& 63))), none, none]) hc rfl (zlt rfl) rfl rfl ?_
      refine g_iconst (pc' := 30) (v := (1 : Int32)) hc rfl zki_1 rfl ?_
      refine g_istore (pc' := 32) (ls1 := [some (.ref 0), some (.int a1), some (.int a2), some (.long ((1 : Int64) <<< ((o3 a1.toNatClampNeg).toInt64 &&& 63))), none, some (.int (1 : Int32))]) hc rfl (zlt rfl) rfl rfl ?_
      refine zjn (G := (fun (g : Int64 × (Nat → Int32) × (Nat → Int32) × Int32 × (Nat → Int32) × (Nat → Int32) × (Nat → Int32) × (Nat → Int32)) => match g with | (y23, y25, y26, y27, y28, y29, y30, y31) => ∀ z24 : Option Value, znl z24 = true → pm_ev C_X11_spread (d + 1) (pm_call M cost zext d) cost (false, false) 108 1 6 Q 62 [some (.ref 0), some (.int a1), some (.int a2), some (.long y23), none, z24] [] 0 0 (zS 19 7 I [(26, none, y30), (29, none, y31), (52, none, y29), (53, some 0, fun _ => y27), (53, some 1, fun _ => o8), (53, some 3, fun _ => o4), (54, none, y25), (55, none, y28), (56, none, y26), (57, none, o7)] J [(53, some 2, fun _ => o10)]))) (zwp_bind h) ?_ (fun h => ?_)
      · rintro ⟨y23, y25, y26, y27, y28, y29, y30, y31⟩ h z24 hz24
        refine g_lload_n (pc' := 63)  hc rfl rfl rfl ?_
        refine z_stat (as := [.long y23]) (r := []) hc rfl rfl rfl rfl zco_266 rfl rfl rfl ?_
        refine ok_J13_bitCount_95d88 (zdp hd rfl) (zwp_mono (zwp_bind h) ?_)
        rintro r32 h
        refine z_po (pc' := 66) (st' := [.int r32]) (v := (some (.int r32))) (L' := [(26, none, y30), (29, none, y31), (52, none, y29), (53, some 0, fun _ => y27), (53, some 1, fun _ => o8), (53, some 3, fun _ => o4), (54, none, y25), (55, none, y28), (56, none, y26), (57, none, o7)]) (K' := [(53, some 2, fun _ => o10)]) zco_266 rfl rfl rfl rfl rfl rfl rfl rfl ?_
        replace h := zws h
        exact g_ireturn hc rfl rfl rfl (fun _ => ⟨rfl, rfl⟩) h
      refine zitr_ev (G := (fun (g : Int64 × Int32 × (Nat → Int32) × (Nat → Int32) × Int32 × (Nat → Int32) × (Nat → Int32) × (Nat → Int32) × (Nat → Int32)) => match g with | (x14, x15, x16, x17, x18, x19, x20, x21, x22) => pm_ev C_X11_spread (d + 1) (pm_call M cost zext d) cost (false, false) 108 1 6 Q 32 [some (.ref 0), some (.int a1), some (.int a2), some (.long x14), none, some (.int x15)] [] 0 0 (zS 19 7 I [(26, none, x21), (29, none, x22), (52, none, x20), (53, some 0, fun _ => x18), (53, some 1, fun _ => o8), (53, some 3, fun _ => o4), (54, none, x16), (55, none, x19), (56, none, x17), (57, none, o7)] J [(53, some 2, fun _ => o10)]))) ?_ zFU (((1 : Int64) <<< ((o3 a1.toNatClampNeg).toInt64 &&& 63)), (1 : Int32), o3, o5, o6, o9, o11, o12, o13) h
      rintro ⟨x14, x15, x16, x17, x18, x19, x20, x21, x22⟩ h
      refine g_iload (pc' := 34)  hc rfl rfl rfl ?_
      refine g_iload_n (pc' := 35)  hc rfl rfl rfl ?_
      refine g_icmp_gt (pc' := 38) hc rfl rfl (fun hx => ?_) (fun hx => ?_)
      · replace h := zwp_t h hx
        replace h := zwp_r h
        exact h (some (.int x15)) rfl
      · replace h := zwp_f h hx
        refine g_aload_n (pc' := 39)  hc rfl rfl rfl rfl ?_
        refine z_virt (as := []) (a := 0) (r := []) hc rfl rfl rfl rfl sh_0 rfl zco_140 rfl rfl rfl ?_
        refine ok_X11_passFuture_0_q (zdp hd rfl) (zwp_mono (zwp_bind h) ?_)
        rintro ⟨o33, o34, o35, o36, o37, o38, o39⟩ h
        refine z_po (pc' := 42) (st' := []) (v := none) (L' := [(26, none, o38), (29, none, o39), (52, none, o37), (53, some 0, fun _ => o35), (53, some 1, fun _ => o8), (53, some 3, fun _ => o4), (54, none, o33), (55, none, o36), (56, none, o34), (57, none, o7)]) (K' := [(53, some 2, fun _ => o10)]) zco_140 rfl rfl rfl rfl rfl rfl rfl rfl ?_
        refine g_lload_n (pc' := 43)  hc rfl rfl rfl ?_
        refine g_lconst (pc' := 44) (v := (1 : Int64)) hc rfl zkl_1 rfl ?_
        refine g_aload_n (pc' := 45)  hc rfl rfl rfl rfl ?_
        refine z_getR (pc' := 48)  hc rfl rfl rfl sh_0 rfl rfl ?_
        refine z_getR (pc' := 51)  hc rfl rfl rfl sh_53 rfl rfl ?_
        refine g_iload_n (pc' := 52)  hc rfl rfl rfl ?_
        have hb := (zwp_bnd h).1
        replace h := (zwp_bnd h).2
        refine z_iaload (pc' := 53) (v := (o33 a1.toNatClampNeg)) hc rfl rfl sh_54 hb rfl rfl ?_
        refine g_lshl (pc' := 54)  hc rfl rfl ?_
        refine g_lor (pc' := 55)  hc rfl rfl ?_
        refine g_lstore_n (pc' := 56) (ls1 := [some (.ref 0), some (.int a1), some (.int a2), some (.long (x14 ||| ((1 : Int64) <<< ((o33 a1.toNatClampNeg).toInt64 &&& 63)))), none, some (.int x15)]) hc rfl (zlt rfl) rfl rfl ?_
        refine g_iinc (pc' := 59) (ls1 := [some (.ref 0), some (.int a1), some (.int a2), some (.long (x14 ||| ((1 : Int64) <<< ((o33 a1.toNatClampNeg).toInt64 &&& 63)))), none, some (.int (x15 + (1 : Int32)))]) hc rfl rfl zki_1 (zlt rfl) rfl rfl ?_
        refine g_goto hc rfl ?_
        replace h := zwp_l h
        exact h
    · replace h := zws h
      exact z_pox (L' := [(26, none, (I 26)), (29, none, (I 29)), (52, none, (I 52)), (53, some 0, fun _ => (I 53 0)), (53, some 1, fun _ => (I 53 1)), (53, some 3, fun _ => (I 53 3)), (54, none, (I 54)), (55, none, (I 55)), (56, none, (I 56)), (57, none, (I 57))]) (K' := [(53, some 2, fun _ => (J 53 2))]) rfl rfl rfl rfl rfl rfl rfl h
  · replace h := zws h
    exact z_pox (L' := [(26, none, (I 26)), (29, none, (I 29)), (52, none, (I 52)), (53, some 0, fun _ => (I 53 0)), (53, some 1, fun _ => (I 53 1)), (53, some 3, fun _ => (I 53 3)), (54, none, (I 54)), (55, none, (I 55)), (56, none, (I 56)), (57, none, (I 57))]) (K' := [(53, some 2, fun _ => (J 53 2))]) rfl rfl rfl rfl rfl rfl rfl h
set_option maxRecDepth 4000 in
theorem ok_L_spread_0_107_q {I : pI} {J : pJ} {a1 : Int32} {a2 : Int32} {Q : pQ} {d : Nat} (hd : 9 ≤ d) (h : zwp (f_L_spread a1 a2 1 (J 107) (I 54) (I 53 3) (I 56) (I 53 0) (I 57) (I 53 1) (I 55) (J 53 2) (I 52) (I 32) (I 31 3) (I 34) (I 31 0) (I 35) (I 31 1) (I 33) (J 31 2) (I 19 12) (I 19 3) (I 27) (I 25 2) (I 26) (I 19 1) (I 30) (I 28 2) (I 29) (I 24) (I 19 9) (I 21) (I 22) (I 19 0)) (fun w => match w with | (r, o0, o1, o2, o3, o4, o5, o6, o7, o8, o9, o10, o11) => Q (.inl (some (.int r))) (zS 19 7 I [(26, none, o10), (29, none, o11), (52, none, o9), (53, some 0, fun _ => o4), (53, some 1, fun _ => o6), (53, some 3, fun _ => o2), (54, none, o1), (55, none, o7), (56, none, o3), (57, none, o5)] J [(53, some 2, fun _ => o8), (107, none, o0)]))) : pm_call M cost zext d 284 [.ref 0, .int a1, .int a2, .ref 107] (pm_st 108 (shp 19 7) I J) Q := by
  obtain ⟨d, rfl⟩ := zd1 hd rfl
  have hc := pm_call_m (M := M) (cost := cost) zext_m d
  refine z_in (L := [(26, none, (I 26)), (29, none, (I 29)), (52, none, (I 52)), (53, some 0, fun _ => (I 53 0)), (53, some 1, fun _ => (I 53 1)), (53, some 3, fun _ => (I 53 3)), (54, none, (I 54)), (55, none, (I 55)), (56, none, (I 56)), (57, none, (I 57))]) (K := [(53, some 2, fun _ => (J 53 2)), (107, none, (J 107))]) (ls := [some (.ref 0), some (.int a1), some (.int a2), some (.ref 107), none]) zmt_284 zco_284 rfl rfl (zid_a (zid_a (zid_a (zid_s (zid_s (zid_s (zid_a (zid_a (zid_a (zid_a zid_n)))))))))) (zid_s (zid_a zid_n)) ?_
  delta f_L_spread at h
  refine g_aload_n (pc' := 1)  hc rfl rfl rfl rfl ?_
  refine g_iconst (pc' := 2) (v := (0 : Int32)) hc rfl zki_0 rfl ?_
  refine g_aload_n (pc' := 3)  hc rfl rfl rfl rfl ?_
  refine g_iload_n (pc' := 4)  hc rfl rfl rfl ?_
  refine g_iload_n (pc' := 5)  hc rfl rfl rfl ?_
  refine z_virt (as := [.int a1, .int a2]) (a := 0) (r := [.int (0 : Int32), .ref 107]) hc rfl rfl rfl rfl sh_0 rfl zco_114 rfl rfl rfl ?_
  refine ok_X11_spread_0_q (zdp hd rfl) (zwp_mono (zwp_bind h) ?_)
  rintro ⟨(r12 | E13), o1, o2, o3, o4, o5, o6, o7, o8, o9, o10, o11⟩ h
  · refine z_po (pc' := 8) (st' := [.int r12, .int (0 : Int32), .ref 107]) (v := (some (.int r12))) (L' := [(26, none, o10), (29, none, o11), (52, none, o9), (53, some 0, fun _ => o4), (53, some 1, fun _ => o6), (53, some 3, fun _ => o2), (54, none, o1), (55, none, o7), (56, none, o3), (57, none, o5)]) (K' := [(53, some 2, fun _ => o8), (107, none, (J 107))]) zco_114 rfl rfl rfl rfl rfl rfl rfl rfl ?_
    refine g_i2l (pc' := 9)  hc rfl rfl ?_
    have hb := (zwp_bnd h).1
    replace h := (zwp_bnd h).2
    refine z_lastore (pc' := 10) (g := (J 107)) (K' := [(53, some 2, fun _ => o8), (107, none, (vp_updL ((J 107)) (0 : Int32).toNatClampNeg r12.toInt64))]) hc rfl rfl sh_107 hb rfl rfl rfl rfl ?_
    refine g_goto hc rfl ?_
    refine g_iconst (pc' := 22) (v := (0 : Int32)) hc rfl zki_0 rfl ?_
    replace h := zws h
    exact g_ireturn hc rfl rfl rfl (fun _ => ⟨rfl, rfl⟩) h
  · by_cases hE : E13 = x_N
    · replace h := zwp_t h hE
      replace h := zws h
      exact z_poh (L' := [(26, none, o10), (29, none, o11), (52, none, o9), (53, some 0, fun _ => o4), (53, some 1, fun _ => o6), (53, some 3, fun _ => o2), (54, none, o1), (55, none, o7), (56, none, o3), (57, none, o5)]) (K' := [(53, some 2, fun _ => o8), (107, none, (J 107))]) (zhd2a (e := 10) (pc := 5) rfl hE) rfl rfl rfl rfl rfl rfl rfl rfl h
    replace h := zwp_f h hE
    have hN := hE
    by_cases hE : E13 = x_I
    · replace h := zwp_t h hE
      replace h := zws h
      exact z_poh (L' := [(26, none, o10), (29, none, o11), (52, none, o9), (53, some 0, fun _ => o4), (53, some 1, fun _ => o6), (53, some 3, fun _ => o2), (54, none, o1), (55, none, o7), (56, none, o3), (57, none, o5)]) (K' := [(53, some 2, fun _ => o8), (107, none, (J 107))]) (zhd2b (e := 10) (pc := 5) rfl hN hE) rfl rfl rfl rfl rfl rfl rfl rfl h
    replace h := zwp_f h hE
    exact (zwn h).elim
set_option maxRecDepth 4000 in
theorem ok_X10_firstStep_58_19_31 {p q : Nat} {I : pI} {J : pJ} {a3 : Int32} {Q : pQ} {d : Nat} (hd : 3 ≤ d) (h : zwp (f_X10_firstStep a3 (I 59) (I 19 1) (I 19 0) (J 31 2)) (fun r => Q (.inl (some (.int r))) (zS p q I [] J []))) : pm_call M cost zext d 93 [.ref 58, .ref 19, .ref 31, .int a3] (pm_st 108 (shp p q) I J) Q := by
  obtain ⟨d, rfl⟩ := zd1 hd rfl
  have hc := pm_call_m (M := M) (cost := cost) zext_m d
  refine z_in (L := []) (K := []) (ls := [some (.ref 58), some (.ref 19), some (.ref 31), some (.int a3), none, none, none]) zmt_93 zco_93 rfl rfl zid_n zid_n ?_
  delta f_X10_firstStep at h
  refine g_iconst (pc' := 1) (v := (-1 : Int32)) hc rfl zki_m1 rfl ?_
  refine g_istore (pc' := 3) (ls1 := [some (.ref 58), some (.ref 19), some (.ref 31), some (.int a3), some (.int (-1 : Int32)), none, none]) hc rfl (zlt rfl) rfl rfl ?_
  refine g_iconst (pc' := 4) (v := (1 : Int32)) hc rfl zki_1 rfl ?_
  refine g_istore (pc' := 6) (ls1 := [some (.ref 58), some (.ref 19), some (.ref 31), some (.int a3), some (.int (-1 : Int32)), some (.int (1 : Int32)), none]) hc rfl (zlt rfl) rfl rfl ?_
  refine zjn (G := (fun (y4 : Int32) => ∀ z5 : Option Value, znl z5 = true → ∀ z6 : Option Value, znl z6 = true → pm_ev C_X10_firstStep (d + 1) (pm_call M cost zext d) cost (false, false) 108 0 0 Q 89 [some (.ref 58), some (.ref 19), some (.ref 31), some (.int a3), some (.int y4), z5, z6] [] 0 0 (zS p q I [] J []))) (zwp_bind h) ?_ (fun h => ?_)
  · rintro y4 h z5 hz5 z6 hz6
    refine g_iload (pc' := 91)  hc rfl rfl rfl ?_
    replace h := zws h
    exact g_ireturn hc rfl rfl rfl (fun _ => ⟨rfl, rfl⟩) h
  refine zitr_ev (G := (fun (g : Int32 × Int32) => match g with | (x1, x2) => ∀ z3 : Option Value, znl z3 = true → pm_ev C_X10_firstStep (d + 1) (pm_call M cost zext d) cost (false, false) 108 0 0 Q 6 [some (.ref 58), some (.ref 19), some (.ref 31), some (.int a3), some (.int x1), some (.int x2), z3] [] 0 0 (zS p q I [] J []))) ?_ zFU ((-1 : Int32), (1 : Int32)) h none rfl
  rintro ⟨x1, x2⟩ h z3 hz3
  refine g_iload (pc' := 8)  hc rfl rfl rfl ?_
  refine g_iconst (pc' := 9) (v := (4 : Int32)) hc rfl zki_4 rfl ?_
  refine g_icmp_gt (pc' := 12) hc rfl rfl (fun hx => ?_) (fun hx => ?_)
  · replace h := zwp_t h hx
    replace h := zwp_r h
    exact h (some (.int x2)) rfl z3 hz3
  · replace h := zwp_f h hx
    refine g_aload_n (pc' := 13)  hc rfl rfl rfl rfl ?_
    refine z_getR (pc' := 16)  hc rfl rfl rfl sh_58 rfl rfl ?_
    refine g_iload_n (pc' := 17)  hc rfl rfl rfl ?_
    have hb := (zwp_bnd h).1
    replace h := (zwp_bnd h).2
    refine z_iaload (pc' := 18) (v := (((I 59)) a3.toNatClampNeg)) hc rfl rfl sh_59 hb rfl rfl ?_
    refine g_if_le (pc' := 21) hc rfl rfl (fun hx => ?_) (fun hx => ?_)
    · replace h := zwp_t h hx
      replace h := zwp_r h
      exact h (some (.int x2)) rfl z3 hz3
    · replace h := zwp_f h hx
      refine g_aload_n (pc' := 22)  hc rfl rfl rfl rfl ?_
      refine g_iload_n (pc' := 23)  hc rfl rfl rfl ?_
      refine g_iload (pc' := 25)  hc rfl rfl rfl ?_
      refine z_virt (as := [.int a3, .int x2]) (a := 19) (r := []) hc rfl rfl rfl rfl sh_19 rfl zco_28 rfl rfl rfl ?_
      refine ok_X3_beside_19 (zdp hd rfl) (zwp_mono (zwp_bind h) ?_)
      rintro r7 h
      refine z_po (pc' := 28) (st' := [.int r7]) (v := (some (.int r7))) (L' := []) (K' := []) zco_28 rfl rfl rfl rfl rfl rfl rfl rfl ?_
      refine g_istore (pc' := 30) (ls1 := [some (.ref 58), some (.ref 19), some (.ref 31), some (.int a3), some (.int x1), some (.int x2), some (.int r7)]) hc rfl (zlt rfl) rfl rfl ?_
      refine g_iload (pc' := 32)  hc rfl rfl rfl ?_
      refine g_iconst (pc' := 33) (v := (-1 : Int32)) hc rfl zki_m1 rfl ?_
      refine g_icmp_eq (pc' := 36) hc rfl rfl (fun hx => ?_) (fun hx => ?_)
      · replace h := zwp_t h hx
        refine g_iinc (pc' := 86) (ls1 := [some (.ref 58), some (.ref 19), some (.ref 31), some (.int a3), some (.int x1), some (.int (x2 + (1 : Int32))), some (.int r7)]) hc rfl rfl zki_1 (zlt rfl) rfl rfl ?_
        refine g_goto hc rfl ?_
        replace h := zwp_l h
        exact h (some (.int r7)) rfl
      · replace h := zwp_f h hx
        refine g_aload_n (pc' := 37)  hc rfl rfl rfl rfl ?_
        refine g_iload (pc' := 39)  hc rfl rfl rfl ?_
        refine z_virt (as := [.int r7]) (a := 31) (r := []) hc rfl rfl rfl rfl sh_31 rfl zco_71 rfl rfl rfl ?_
        refine ok_X8_isWall_31 (zdp hd rfl) (zwp_mono (zwp_bind h) ?_)
        rintro r8 h
        refine z_po (pc' := 42) (st' := [.int r8]) (v := (some (.int r8))) (L' := []) (K' := []) zco_71 rfl rfl rfl rfl rfl rfl rfl rfl ?_
        refine g_if_ne (pc' := 45) hc rfl rfl (fun hx => ?_) (fun hx => ?_)
        · replace h := zwp_f h hx
          refine g_iinc (pc' := 86) (ls1 := [some (.ref 58), some (.ref 19), some (.ref 31), some (.int a3), some (.int x1), some (.int (x2 + (1 : Int32))), some (.int r7)]) hc rfl rfl zki_1 (zlt rfl) rfl rfl ?_
          refine g_goto hc rfl ?_
          replace h := zwp_l h
          exact h (some (.int r7)) rfl
        · replace h := zwp_t h hx
          refine g_aload_n (pc' := 46)  hc rfl rfl rfl rfl ?_
          refine z_getR (pc' := 49)  hc rfl rfl rfl sh_58 rfl rfl ?_
          refine g_iload (pc' := 51)  hc rfl rfl rfl ?_
          have hb := (zwp_bnd h).1
          replace h := (zwp_bnd h).2
          refine z_iaload (pc' := 52) (v := (((I 59)) r7.toNatClampNeg)) hc rfl rfl sh_59 hb rfl rfl ?_
          refine g_aload_n (pc' := 53)  hc rfl rfl rfl rfl ?_
          refine z_getR (pc' := 56)  hc rfl rfl rfl sh_58 rfl rfl ?_
          refine g_iload_n (pc' := 57)  hc rfl rfl rfl ?_
          have hb := (zwp_bnd h).1
          replace h := (zwp_bnd h).2
          refine z_iaload (pc' := 58) (v := (((I 59)) a3.toNatClampNeg)) hc rfl rfl sh_59 hb rfl rfl ?_
          refine g_iconst (pc' := 59) (v := (1 : Int32)) hc rfl zki_1 rfl ?_
          refine g_isub (pc' := 60)  hc rfl rfl ?_
          refine g_icmp_eq (pc' := 63) hc rfl rfl (fun hx => ?_) (fun hx => ?_)
          · replace h := zwp_t h hx
            refine g_iload (pc' := 68)  hc rfl rfl rfl ?_
            refine g_iconst (pc' := 69) (v := (-1 : Int32)) hc rfl zki_m1 rfl ?_
            refine g_icmp_eq (pc' := 72) hc rfl rfl (fun hx => ?_) (fun hx => ?_)
            · replace h := zwp_t h hx
              refine g_iload (pc' := 81)  hc rfl rfl rfl ?_
              refine g_istore (pc' := 83) (ls1 := [some (.ref 58), some (.ref 19), some (.ref 31), some (.int a3), some (.int r7), some (.int x2), some (.int r7)]) hc rfl (zlt rfl) rfl rfl ?_
              refine g_iinc (pc' := 86) (ls1 := [some (.ref 58), some (.ref 19), some (.ref 31), some (.int a3), some (.int r7), some (.int (x2 + (1 : Int32))), some (.int r7)]) hc rfl rfl zki_1 (zlt rfl) rfl rfl ?_
              refine g_goto hc rfl ?_
              replace h := zwp_l h
              exact h (some (.int r7)) rfl
            · replace h := zwp_f h hx
              refine g_iload (pc' := 74)  hc rfl rfl rfl ?_
              refine g_iload (pc' := 76)  hc rfl rfl rfl ?_
              refine g_icmp_ge (pc' := 79) hc rfl rfl (fun hx => ?_) (fun hx => ?_)
              · replace h := zwp_t h hx
                refine g_iinc (pc' := 86) (ls1 := [some (.ref 58), some (.ref 19), some (.ref 31), some (.int a3), some (.int x1), some (.int (x2 + (1 : Int32))), some (.int r7)]) hc rfl rfl zki_1 (zlt rfl) rfl rfl ?_
                refine g_goto hc rfl ?_
                replace h := zwp_l h
                exact h (some (.int r7)) rfl
              · replace h := zwp_f h hx
                refine g_iload (pc' := 81)  hc rfl rfl rfl ?_
                refine g_istore (pc' := 83) (ls1 := [some (.ref 58), some (.ref 19), some (.ref 31), some (.int a3), some (.int r7), some (.int x2), some (.int r7)]) hc rfl (zlt rfl) rfl rfl ?_
                refine g_iinc (pc' := 86) (ls1 := [some (.ref 58), some (.ref 19), some (.ref 31), some (.int a3), some (.int r7), some (.int (x2 + (1 : Int32))), some (.int r7)]) hc rfl rfl zki_1 (zlt rfl) rfl rfl ?_
                refine g_goto hc rfl ?_
                replace h := zwp_l h
                exact h (some (.int r7)) rfl
          · replace h := zwp_f h hx
            refine g_goto hc rfl ?_
            refine g_iinc (pc' := 86) (ls1 := [some (.ref 58), some (.ref 19), some (.ref 31), some (.int a3), some (.int x1), some (.int (x2 + (1 : Int32))), some (.int r7)]) hc rfl rfl zki_1 (zlt rfl) rfl rfl ?_
            refine g_goto hc rfl ?_
            replace h := zwp_l h
            exact h (some (.int r7)) rfl
set_option maxRecDepth 4000 in
theorem ok_X11_way_0_q {I : pI} {J : pJ} {a1 : Int32} {a2 : Int32} {a3 : Int32} {Q : pQ} {d : Nat} (hd : 8 ≤ d) (h : zwp (f_X11_way a1 a2 a3 (J 31 2) (I 19 1) (I 19 0) (I 59) (I 60)) (fun w => match w with | (.inl r, o0, o1) => Q (.inl (some (.int r))) (zS 19 7 I [(59, none, o0), (60, none, o1)] J []) | (.inr E, o0, o1) => Q (.inr E) (zS 19 7 I [(59, none, o0), (60, none, o1)] J []))) : pm_call M cost zext d 115 [.ref 0, .int a1, .int a2, .int a3] (pm_st 108 (shp 19 7) I J) Q := by
  obtain ⟨d, rfl⟩ := zd1 hd rfl
  have hc := pm_call_m (M := M) (cost := cost) zext_m d
  refine z_in (L := [(59, none, (I 59)), (60, none, (I 60))]) (K := []) (ls := [some (.ref 0), some (.int a1), some (.int a2), some (.int a3)]) zmt_115 zco_115 rfl rfl (zid_a (zid_a zid_n)) zid_n ?_
  delta f_X11_way at h
  refine g_aload_n (pc' := 1)  hc rfl rfl rfl rfl ?_
  refine g_iload_n (pc' := 2)  hc rfl rfl rfl ?_
  refine z_virt (as := [.int a1]) (a := 0) (r := []) hc rfl rfl rfl rfl sh_0 rfl zco_134 rfl rfl rfl ?_
  refine ok_X11_checkCell_0_q (zdp hd rfl) (zwp_mono (zwp_bind h) ?_)
  rintro (⟨⟩ | E1) h
  · refine z_po (pc' := 5) (st' := []) (v := none) (L' := [(59, none, (I 59)), (60, none, (I 60))]) (K' := []) zco_134 rfl rfl rfl rfl rfl rfl rfl rfl ?_
    refine g_aload_n (pc' := 6)  hc rfl rfl rfl rfl ?_
    refine g_iload_n (pc' := 7)  hc rfl rfl rfl ?_
    refine z_virt (as := [.int a2]) (a := 0) (r := []) hc rfl rfl rfl rfl sh_0 rfl zco_134 rfl rfl rfl ?_
    refine ok_X11_checkCell_0_q (zdp hd rfl) (zwp_mono (zwp_bind h) ?_)
    rintro (⟨⟩ | E2) h
    · refine z_po (pc' := 10) (st' := []) (v := none) (L' := [(59, none, (I 59)), (60, none, (I 60))]) (K' := []) zco_134 rfl rfl rfl rfl rfl rfl rfl rfl ?_
      refine g_iload_n (pc' := 11)  hc rfl rfl rfl ?_
      refine g_iconst (pc' := 12) (v := (1 : Int32)) hc rfl zki_1 rfl ?_
      refine z_stat (as := [.int a3, .int (1 : Int32)]) (r := []) hc rfl rfl rfl rfl zco_135 rfl rfl rfl ?_
      refine ok_X11_checkWhat (zdp hd rfl) (zwp_mono (zwp_bind h) ?_)
      rintro (⟨⟩ | E3) h
      · refine z_po (pc' := 15) (st' := []) (v := none) (L' := [(59, none, (I 59)), (60, none, (I 60))]) (K' := []) zco_135 rfl rfl rfl rfl rfl rfl rfl rfl ?_
        refine g_aload_n (pc' := 16)  hc rfl rfl rfl rfl ?_
        refine z_getR (pc' := 19)  hc rfl rfl rfl sh_0 rfl rfl ?_
        refine g_aload_n (pc' := 20)  hc rfl rfl rfl rfl ?_
        refine z_getR (pc' := 23)  hc rfl rfl rfl sh_0 rfl rfl ?_
        refine g_aload_n (pc' := 24)  hc rfl rfl rfl rfl ?_
        refine z_getR (pc' := 27)  hc rfl rfl rfl sh_0 rfl rfl ?_
        refine g_iload_n (pc' := 28)  hc rfl rfl rfl ?_
        refine z_virt (as := [.ref 19, .ref 31, .int a2]) (a := 58) (r := []) hc rfl rfl rfl rfl sh_58 rfl zco_92 rfl rfl rfl ?_
        refine ok_X10_measure_58_19_31 (zdp hd rfl) (zwp_mono (zwp_bind h) ?_)
        rintro ⟨o4, o5⟩ h
        refine z_po (pc' := 31) (st' := []) (v := none) (L' := [(59, none, o4), (60, none, o5)]) (K' := []) zco_92 rfl rfl rfl rfl rfl rfl rfl rfl ?_
        refine g_iload_n (pc' := 32)  hc rfl rfl rfl ?_
        refine g_if_ne (pc' := 35) hc rfl rfl (fun hx => ?_) (fun hx => ?_)
        · replace h := zwp_f h hx
          refine g_aload_n (pc' := 48)  hc rfl rfl rfl rfl ?_
          refine z_getR (pc' := 51)  hc rfl rfl rfl sh_0 rfl rfl ?_
          refine g_aload_n (pc' := 52)  hc rfl rfl rfl rfl ?_
          refine z_getR (pc' := 55)  hc rfl rfl rfl sh_0 rfl rfl ?_
          refine g_aload_n (pc' := 56)  hc rfl rfl rfl rfl ?_
          refine z_getR (pc' := 59)  hc rfl rfl rfl sh_0 rfl rfl ?_
          refine g_iload_n (pc' := 60)  hc rfl rfl rfl ?_
          refine z_virt (as := [.ref 19, .ref 31, .int a1]) (a := 58) (r := []) hc rfl rfl rfl rfl sh_58 rfl zco_93 rfl rfl rfl ?_
          refine ok_X10_firstStep_58_19_31 (zdp hd rfl) (zwp_mono (zwp_bind h) ?_)
          rintro r6 h
          refine z_po (pc' := 63) (st' := [.int r6]) (v := (some (.int r6))) (L' := [(59, none, o4), (60, none, o5)]) (K' := []) zco_93 rfl rfl rfl rfl rfl rfl rfl rfl ?_
          replace h := zws h
          exact g_ireturn hc rfl rfl rfl (fun _ => ⟨rfl, rfl⟩) h
        · replace h := zwp_t h hx
          refine g_aload_n (pc' := 36)  hc rfl rfl rfl rfl ?_
          refine z_getR (pc' := 39)  hc rfl rfl rfl sh_0 rfl rfl ?_
          refine z_getR (pc' := 42)  hc rfl rfl rfl sh_58 rfl rfl ?_
          refine g_iload_n (pc' := 43)  hc rfl rfl rfl ?_
          have hb := (zwp_bnd h).1
          replace h := (zwp_bnd h).2
          refine z_iaload (pc' := 44) (v := (o4 a1.toNatClampNeg)) hc rfl rfl sh_59 hb rfl rfl ?_
          refine g_goto hc rfl ?_
          replace h := zws h
          exact g_ireturn hc rfl rfl rfl (fun _ => ⟨rfl, rfl⟩) h
      · replace h := zws h
        exact z_pox (L' := [(59, none, (I 59)), (60, none, (I 60))]) (K' := []) rfl rfl rfl rfl rfl rfl rfl h
    · replace h := zws h
      exact z_pox (L' := [(59, none, (I 59)), (60, none, (I 60))]) (K' := []) rfl rfl rfl rfl rfl rfl rfl h
  · replace h := zws h
    exact z_pox (L' := [(59, none, (I 59)), (60, none, (I 60))]) (K' := []) rfl rfl rfl rfl rfl rfl rfl h
set_option maxRecDepth 4000 in
theorem ok_L_way_0_107_q {I : pI} {J : pJ} {a1 : Int32} {a2 : Int32} {a3 : Int32} {Q : pQ} {d : Nat} (hd : 9 ≤ d) (h : zwp (f_L_way a1 a2 a3 1 (J 107) (J 31 2) (I 19 1) (I 19 0) (I 59) (I 60)) (fun w => match w with | (r, o0, o1, o2) => Q (.inl (some (.int r))) (zS 19 7 I [(59, none, o1), (60, none, o2)] J [(107, none, o0)]))) : pm_call M cost zext d 285 [.ref 0, .int a1, .int a2, .int a3, .ref 107] (pm_st 108 (shp 19 7) I J) Q := by
  obtain ⟨d, rfl⟩ := zd1 hd rfl
  have hc := pm_call_m (M := M) (cost := cost) zext_m d
  refine z_in (L := [(59, none, (I 59)), (60, none, (I 60))]) (K := [(107, none, (J 107))]) (ls := [some (.ref 0), some (.int a1), some (.int a2), some (.int a3), some (.ref 107), none]) zmt_285 zco_285 rfl rfl (zid_a (zid_a zid_n)) (zid_a zid_n) ?_
  delta f_L_way at h
  refine g_aload (pc' := 2)  hc rfl rfl rfl rfl ?_
  refine g_iconst (pc' := 3) (v := (0 : Int32)) hc rfl zki_0 rfl ?_
  refine g_aload_n (pc' := 4)  hc rfl rfl rfl rfl ?_
  refine g_iload_n (pc' := 5)  hc rfl rfl rfl ?_
  refine g_iload_n (pc' := 6)  hc rfl rfl rfl ?_
  refine g_iload_n (pc' := 7)  hc rfl rfl rfl ?_
  refine z_virt (as := [.int a1, .int a2, .int a3]) (a := 0) (r := [.int (0 : Int32), .ref 107]) hc rfl rfl rfl rfl sh_0 rfl zco_115 rfl rfl rfl ?_
  refine ok_X11_way_0_q (zdp hd rfl) (zwp_mono (zwp_bind h) ?_)
  rintro ⟨(r3 | E4), o1, o2⟩ h
  · refine z_po (pc' := 10) (st' := [.int r3, .int (0 : Int32), .ref 107]) (v := (some (.int r3))) (L' := [(59, none, o1), (60, none, o2)]) (K' := [(107, none, (J 107))]) zco_115 rfl rfl rfl rfl rfl rfl rfl rfl ?_
    refine g_i2l (pc' := 11)  hc rfl rfl ?_
    have hb := (zwp_bnd h).1
    replace h := (zwp_bnd h).2
    refine z_lastore (pc' := 12) (g := (J 107)) (K' := [(107, none, (vp_updL ((J 107)) (0 : Int32).toNatClampNeg r3.toInt64))]) hc rfl rfl sh_107 hb rfl rfl rfl rfl ?_
    refine g_goto hc rfl ?_
    refine g_iconst (pc' := 20) (v := (0 : Int32)) hc rfl zki_0 rfl ?_
    replace h := zws h
    exact g_ireturn hc rfl rfl rfl (fun _ => ⟨rfl, rfl⟩) h
  · by_cases hE : E4 = x_N
    · replace h := zwp_t h hE
      replace h := zws h
      exact z_poh (L' := [(59, none, o1), (60, none, o2)]) (K' := [(107, none, (J 107))]) (zhd1 (e := 12) (pc := 7) rfl hE) rfl rfl rfl rfl rfl rfl rfl rfl h
    replace h := zwp_f h hE
    exact (zwn h).elim
set_option maxRecDepth 4000 in
theorem ok_X11_toStop_0_q {I : pI} {J : pJ} {a1 : Int32} {a2 : Int32} {a3 : Int32} {Q : pQ} {d : Nat} (hd : 8 ≤ d) (h : zwp (f_X11_toStop a1 a2 a3 (I 54) (I 53 3) (I 56) (I 53 0) (I 57) (I 53 1) (I 55) (J 53 2) (I 52) (I 32) (I 31 3) (I 34) (I 31 0) (I 35) (I 31 1) (I 33) (J 31 2) (I 19 12) (I 19 3) (I 27) (I 25 2) (I 26) (I 19 1) (I 30) (I 28 2) (I 29) (I 24) (I 19 9) (I 21) (I 22) (I 19 0)) (fun w => match w with | (.inl r, o0, o1, o2, o3, o4, o5, o6, o7, o8, o9, o10) => Q (.inl (some (.int r))) (zS 19 7 I [(26, none, o9), (29, none, o10), (52, none, o8), (53, some 0, fun _ => o3), (53, some 1, fun _ => o5), (53, some 3, fun _ => o1), (54, none, o0), (55, none, o6), (56, none, o2), (57, none, o4)] J [(53, some 2, fun _ => o7)]) | (.inr E, o0, o1, o2, o3, o4, o5, o6, o7, o8, o9, o10) => Q (.inr E) (zS 19 7 I [(26, none, o9), (29, none, o10), (52, none, o8), (53, some 0, fun _ => o3), (53, some 1, fun _ => o5), (53, some 3, fun _ => o1), (54, none, o0), (55, none, o6), (56, none, o2), (57, none, o4)] J [(53, some 2, fun _ => o7)]))) : pm_call M cost zext d 116 [.ref 0, .int a1, .int a2, .int a3] (pm_st 108 (shp 19 7) I J) Q := by
  obtain ⟨d, rfl⟩ := zd1 hd rfl
  have hc := pm_call_m (M := M) (cost := cost) zext_m d
  refine z_in (L := [(26, none, (I 26)), (29, none, (I 29)), (52, none, (I 52)), (53, some 0, fun _ => (I 53 0)), (53, some 1, fun _ => (I 53 1)), (53, some 3, fun _ => (I 53 3)), (54, none, (I 54)), (55, none, (I 55)), (56, none, (I 56)), (57, none, (I 57))]) (K := [(53, some 2, fun _ => (J 53 2))]) (ls := [some (.ref 0), some (.int a1), some (.int a2), some (.int a3), none]) zmt_116 zco_116 rfl rfl (zid_a (zid_a (zid_a (zid_s (zid_s (zid_s (zid_a (zid_a (zid_a (zid_a zid_n)))))))))) (zid_s zid_n) ?_
  delta f_X11_toStop at h
  refine g_aload_n (pc' := 1)  hc rfl rfl rfl rfl ?_
  refine g_iload_n (pc' := 2)  hc rfl rfl rfl ?_
  refine z_virt (as := [.int a1]) (a := 0) (r := []) hc rfl rfl rfl rfl sh_0 rfl zco_133 rfl rfl rfl ?_
  refine ok_X11_checkFigure_0_q (zdp hd rfl) (zwp_mono (zwp_bind h) ?_)
  rintro (⟨⟩ | E1) h
  · refine z_po (pc' := 5) (st' := []) (v := none) (L' := [(26, none, (I 26)), (29, none, (I 29)), (52, none, (I 52)), (53, some 0, fun _ => (I 53 0)), (53, some 1, fun _ => (I 53 1)), (53, some 3, fun _ => (I 53 3)), (54, none, (I 54)), (55, none, (I 55)), (56, none, (I 56)), (57, none, (I 57))]) (K' := [(53, some 2, fun _ => (J 53 2))]) zco_133 rfl rfl rfl rfl rfl rfl rfl rfl ?_
    refine g_aload_n (pc' := 6)  hc rfl rfl rfl rfl ?_
    refine g_iload_n (pc' := 7)  hc rfl rfl rfl ?_
    refine z_virt (as := [.int a2]) (a := 0) (r := []) hc rfl rfl rfl rfl sh_0 rfl zco_134 rfl rfl rfl ?_
    refine ok_X11_checkCell_0_q (zdp hd rfl) (zwp_mono (zwp_bind h) ?_)
    rintro (⟨⟩ | E2) h
    · refine z_po (pc' := 10) (st' := []) (v := none) (L' := [(26, none, (I 26)), (29, none, (I 29)), (52, none, (I 52)), (53, some 0, fun _ => (I 53 0)), (53, some 1, fun _ => (I 53 1)), (53, some 3, fun _ => (I 53 3)), (54, none, (I 54)), (55, none, (I 55)), (56, none, (I 56)), (57, none, (I 57))]) (K' := [(53, some 2, fun _ => (J 53 2))]) zco_134 rfl rfl rfl rfl rfl rfl rfl rfl ?_
      refine g_iload_n (pc' := 11)  hc rfl rfl rfl ?_
      refine g_iconst (pc' := 12) (v := (0 : Int32)) hc rfl zki_0 rfl ?_
      refine g_bipush (pc' := 14) (v := (100 : Int32)) hc rfl zkb_100 rfl ?_
      refine z_stat (as := [.int a3, .int (0 : Int32), .int (100 : Int32)]) (r := []) hc rfl rfl rfl rfl zco_136 rfl rfl rfl ?_
      refine ok_X11_checkHours (zdp hd rfl) (zwp_mono (zwp_bind h) ?_)
      rintro (⟨⟩ | E3) h
      · refine z_po (pc' := 17) (st' := []) (v := none) (L' := [(26, none, (I 26)), (29, none, (I 29)), (52, none, (I 52)), (53, some 0, fun _ => (I 53 0)), (53, some 1, fun _ => (I 53 1)), (53, some 3, fun _ => (I 53 3)), (54, none, (I 54)), (55, none, (I 55)), (56, none, (I 56)), (57, none, (I 57))]) (K' := [(53, some 2, fun _ => (J 53 2))]) zco_136 rfl rfl rfl rfl rfl rfl rfl rfl ?_
        refine g_iconst (pc' := 18) (v := (0 : Int32)) hc rfl zki_0 rfl ?_
        refine g_istore (pc' := 20) (ls1 := [some (.ref 0), some (.int a1), some (.int a2), some (.int a3), some (.int (0 : Int32))]) hc rfl (zlt rfl) rfl rfl ?_
        refine zjs (G := (fun (g : (Nat → Int32) × Int32 × (Nat → Int32) × Int32 × (Nat → Int32) × Int32 × (Nat → Int32) × Int64 × (Nat → Int32) × (Nat → Int32) × (Nat → Int32)) => match g with | (y17, y18, y19, y20, y21, y22, y23, y24, y25, y26, y27) => ∀ z16 : Option Value, znl z16 = true → pm_ev C_X11_toStop (d + 1) (pm_call M cost zext d) cost (false, false) 108 1 6 Q 87 [some (.ref 0), some (.int a1), some (.int a2), some (.int a3), z16] [] 0 0 (zS 19 7 I [(26, none, y26), (29, none, y27), (52, none, y25), (53, some 0, fun _ => y20), (53, some 1, fun _ => y22), (53, some 3, fun _ => y18), (54, none, y17), (55, none, y23), (56, none, y19), (57, none, y21)] J [(53, some 2, fun _ => y24)]))) h ?_ (fun h => ?_)
        · rintro ⟨y17, y18, y19, y20, y21, y22, y23, y24, y25, y26, y27⟩ h z16 hz16
          refine g_iconst (pc' := 88) (v := (-1 : Int32)) hc rfl zki_m1 rfl ?_
          replace h := zws h
          exact g_ireturn hc rfl rfl rfl (fun _ => ⟨rfl, rfl⟩) h
        refine zitr_ev (G := (fun (g : Int32 × (Nat → Int32) × Int32 × (Nat → Int32) × Int32 × (Nat → Int32) × Int32 × (Nat → Int32) × Int64 × (Nat → Int32) × (Nat → Int32) × (Nat → Int32)) => match g with | (x4, x5, x6, x7, x8, x9, x10, x11, x12, x13, x14, x15) => pm_ev C_X11_toStop (d + 1) (pm_call M cost zext d) cost (false, false) 108 1 6 Q 20 [some (.ref 0), some (.int a1), some (.int a2), some (.int a3), some (.int x4)] [] 0 0 (zS 19 7 I [(26, none, x14), (29, none, x15), (52, none, x13), (53, some 0, fun _ => x8), (53, some 1, fun _ => x10), (53, some 3, fun _ => x6), (54, none, x5), (55, none, x11), (56, none, x7), (57, none, x9)] J [(53, some 2, fun _ => x12)]))) ?_ zFU ((0 : Int32), (I 54), (I 53 3), (I 56), (I 53 0), (I 57), (I 53 1), (I 55), (J 53 2), (I 52), (I 26), (I 29)) h
        rintro ⟨x4, x5, x6, x7, x8, x9, x10, x11, x12, x13, x14, x15⟩ h
        refine g_iload (pc' := 22)  hc rfl rfl rfl ?_
        refine g_bipush (pc' := 24) (v := (9 : Int32)) hc rfl zkb_9 rfl ?_
        refine g_icmp_gt (pc' := 27) hc rfl rfl (fun hx => ?_) (fun hx => ?_)
        · replace h := zwp_t h hx
          replace h := zwp_r h
          exact h (some (.int x4)) rfl
        · replace h := zwp_f h hx
          refine g_aload_n (pc' := 28)  hc rfl rfl rfl rfl ?_
          refine z_getR (pc' := 31)  hc rfl rfl rfl sh_0 rfl rfl ?_
          refine g_aload_n (pc' := 32)  hc rfl rfl rfl rfl ?_
          refine z_getR (pc' := 35)  hc rfl rfl rfl sh_0 rfl rfl ?_
          refine z_virt (as := [.ref 31]) (a := 53) (r := []) hc rfl rfl rfl rfl sh_53 rfl zco_68 rfl rfl rfl ?_
          refine ok_X8_copyFrom_53_31 (zdp hd rfl) (zwp_mono (zwp_bind h) ?_)
          rintro ⟨o28, o29, o30, o31, o32, o33, o34, o35⟩ h
          refine z_po (pc' := 38) (st' := []) (v := none) (L' := [(26, none, x14), (29, none, x15), (52, none, x13), (53, some 0, fun _ => o31), (53, some 1, fun _ => o33), (53, some 3, fun _ => o29), (54, none, o28), (55, none, o34), (56, none, o30), (57, none, o32)]) (K' := [(53, some 2, fun _ => o35)]) zco_68 rfl rfl rfl rfl rfl rfl rfl rfl ?_
          refine g_aload_n (pc' := 39)  hc rfl rfl rfl rfl ?_
          refine z_getR (pc' := 42)  hc rfl rfl rfl sh_0 rfl rfl ?_
          refine z_getR (pc' := 45)  hc rfl rfl rfl sh_53 rfl rfl ?_
          refine g_iload_n (pc' := 46)  hc rfl rfl rfl ?_
          refine g_iload (pc' := 48)  hc rfl rfl rfl ?_
          have hb := (zwp_bnd h).1
          replace h := (zwp_bnd h).2
          refine z_iastore (pc' := 49) (g := o30) (L' := [(26, none, x14), (29, none, x15), (52, none, x13), (53, some 0, fun _ => o31), (53, some 1, fun _ => o33), (53, some 3, fun _ => o29), (54, none, o28), (55, none, o34), (56, none, (upd o30 a1.toNatClampNeg x4)), (57, none, o32)]) hc rfl rfl sh_56 hb rfl rfl rfl rfl ?_
          refine g_aload_n (pc' := 50)  hc rfl rfl rfl rfl ?_
          refine z_getR (pc' := 53)  hc rfl rfl rfl sh_0 rfl rfl ?_
          refine g_aload_n (pc' := 54)  hc rfl rfl rfl rfl ?_
          refine z_getR (pc' := 57)  hc rfl rfl rfl sh_0 rfl rfl ?_
          refine g_aload_n (pc' := 58)  hc rfl rfl rfl rfl ?_
          refine z_getR (pc' := 61)  hc rfl rfl rfl sh_0 rfl rfl ?_
          refine g_iload_n (pc' := 62)  hc rfl rfl rfl ?_
          refine z_virt (as := [.ref 19, .ref 53, .int a3]) (a := 51) (r := []) hc rfl rfl rfl rfl sh_51 rfl zco_13 rfl rfl rfl ?_
          refine ok_X2_passHours_51_19_53 (zdp hd rfl) (zwp_mono (zwp_bind h) ?_)
          rintro ⟨o36, o37, o38, o39, o40, o41, o42⟩ h
          refine z_po (pc' := 65) (st' := []) (v := none) (L' := [(26, none, o36), (29, none, o37), (52, none, o42), (53, some 0, fun _ => o40), (53, some 1, fun _ => o33), (53, some 3, fun _ => o29), (54, none, o38), (55, none, o41), (56, none, o39), (57, none, o32)]) (K' := [(53, some 2, fun _ => o35)]) zco_13 rfl rfl rfl rfl rfl rfl rfl rfl ?_
          refine g_aload_n (pc' := 66)  hc rfl rfl rfl rfl ?_
          refine z_getR (pc' := 69)  hc rfl rfl rfl sh_0 rfl rfl ?_
          refine z_getR (pc' := 72)  hc rfl rfl rfl sh_53 rfl rfl ?_
          refine g_iload_n (pc' := 73)  hc rfl rfl rfl ?_
          have hb := (zwp_bnd h).1
          replace h := (zwp_bnd h).2
          refine z_iaload (pc' := 74) (v := (o38 a1.toNatClampNeg)) hc rfl rfl sh_54 hb rfl rfl ?_
          refine g_iload_n (pc' := 75)  hc rfl rfl rfl ?_
          refine g_icmp_ne (pc' := 78) hc rfl rfl (fun hx => ?_) (fun hx => ?_)
          · replace h := zwp_f h hx
            refine g_iinc (pc' := 84) (ls1 := [some (.ref 0), some (.int a1), some (.int a2), some (.int a3), some (.int (x4 + (1 : Int32)))]) hc rfl rfl zki_1 (zlt rfl) rfl rfl ?_
            refine g_goto hc rfl ?_
            replace h := zwp_l h
            exact h
          · replace h := zwp_t h hx
            refine g_iload (pc' := 80)  hc rfl rfl rfl ?_
            replace h := zws h
            exact g_ireturn hc rfl rfl rfl (fun _ => ⟨rfl, rfl⟩) h
      · replace h := zws h
        exact z_pox (L' := [(26, none, (I 26)), (29, none, (I 29)), (52, none, (I 52)), (53, some 0, fun _ => (I 53 0)), (53, some 1, fun _ => (I 53 1)), (53, some 3, fun _ => (I 53 3)), (54, none, (I 54)), (55, none, (I 55)), (56, none, (I 56)), (57, none, (I 57))]) (K' := [(53, some 2, fun _ => (J 53 2))]) rfl rfl rfl rfl rfl rfl rfl h
    · replace h := zws h
      exact z_pox (L' := [(26, none, (I 26)), (29, none, (I 29)), (52, none, (I 52)), (53, some 0, fun _ => (I 53 0)), (53, some 1, fun _ => (I 53 1)), (53, some 3, fun _ => (I 53 3)), (54, none, (I 54)), (55, none, (I 55)), (56, none, (I 56)), (57, none, (I 57))]) (K' := [(53, some 2, fun _ => (J 53 2))]) rfl rfl rfl rfl rfl rfl rfl h
  · replace h := zws h
    exact z_pox (L' := [(26, none, (I 26)), (29, none, (I 29)), (52, none, (I 52)), (53, some 0, fun _ => (I 53 0)), (53, some 1, fun _ => (I 53 1)), (53, some 3, fun _ => (I 53 3)), (54, none, (I 54)), (55, none, (I 55)), (56, none, (I 56)), (57, none, (I 57))]) (K' := [(53, some 2, fun _ => (J 53 2))]) rfl rfl rfl rfl rfl rfl rfl h
set_option maxRecDepth 4000 in
theorem ok_L_toStop_0_107_q {I : pI} {J : pJ} {a1 : Int32} {a2 : Int32} {a3 : Int32} {Q : pQ} {d : Nat} (hd : 9 ≤ d) (h : zwp (f_L_toStop a1 a2 a3 1 (J 107) (I 54) (I 53 3) (I 56) (I 53 0) (I 57) (I 53 1) (I 55) (J 53 2) (I 52) (I 32) (I 31 3) (I 34) (I 31 0) (I 35) (I 31 1) (I 33) (J 31 2) (I 19 12) (I 19 3) (I 27) (I 25 2) (I 26) (I 19 1) (I 30) (I 28 2) (I 29) (I 24) (I 19 9) (I 21) (I 22) (I 19 0)) (fun w => match w with | (r, o0, o1, o2, o3, o4, o5, o6, o7, o8, o9, o10, o11) => Q (.inl (some (.int r))) (zS 19 7 I [(26, none, o10), (29, none, o11), (52, none, o9), (53, some 0, fun _ => o4), (53, some 1, fun _ => o6), (53, some 3, fun _ => o2), (54, none, o1), (55, none, o7), (56, none, o3), (57, none, o5)] J [(53, some 2, fun _ => o8), (107, none, o0)]))) : pm_call M cost zext d 286 [.ref 0, .int a1, .int a2, .int a3, .ref 107] (pm_st 108 (shp 19 7) I J) Q := by
  obtain ⟨d, rfl⟩ := zd1 hd rfl
  have hc := pm_call_m (M := M) (cost := cost) zext_m d
  refine z_in (L := [(26, none, (I 26)), (29, none, (I 29)), (52, none, (I 52)), (53, some 0, fun _ => (I 53 0)), (53, some 1, fun _ => (I 53 1)), (53, some 3, fun _ => (I 53 3)), (54, none, (I 54)), (55, none, (I 55)), (56, none, (I 56)), (57, none, (I 57))]) (K := [(53, some 2, fun _ => (J 53 2)), (107, none, (J 107))]) (ls := [some (.ref 0), some (.int a1), some (.int a2), some (.int a3), some (.ref 107), none]) zmt_286 zco_286 rfl rfl (zid_a (zid_a (zid_a (zid_s (zid_s (zid_s (zid_a (zid_a (zid_a (zid_a zid_n)))))))))) (zid_s (zid_a zid_n)) ?_
  delta f_L_toStop at h
  refine g_aload (pc' := 2)  hc rfl rfl rfl rfl ?_
  refine g_iconst (pc' := 3) (v := (0 : Int32)) hc rfl zki_0 rfl ?_
  refine g_aload_n (pc' := 4)  hc rfl rfl rfl rfl ?_
  refine g_iload_n (pc' := 5)  hc rfl rfl rfl ?_
  refine g_iload_n (pc' := 6)  hc rfl rfl rfl ?_
  refine g_iload_n (pc' := 7)  hc rfl rfl rfl ?_
  refine z_virt (as := [.int a1, .int a2, .int a3]) (a := 0) (r := [.int (0 : Int32), .ref 107]) hc rfl rfl rfl rfl sh_0 rfl zco_116 rfl rfl rfl ?_
  refine ok_X11_toStop_0_q (zdp hd rfl) (zwp_mono (zwp_bind h) ?_)
  rintro ⟨(r12 | E13), o1, o2, o3, o4, o5, o6, o7, o8, o9, o10, o11⟩ h
  · refine z_po (pc' := 10) (st' := [.int r12, .int (0 : Int32), .ref 107]) (v := (some (.int r12))) (L' := [(26, none, o10), (29, none, o11), (52, none, o9), (53, some 0, fun _ => o4), (53, some 1, fun _ => o6), (53, some 3, fun _ => o2), (54, none, o1), (55, none, o7), (56, none, o3), (57, none, o5)]) (K' := [(53, some 2, fun _ => o8), (107, none, (J 107))]) zco_116 rfl rfl rfl rfl rfl rfl rfl rfl ?_
    refine g_i2l (pc' := 11)  hc rfl rfl ?_
    have hb := (zwp_bnd h).1
    replace h := (zwp_bnd h).2
    refine z_lastore (pc' := 12) (g := (J 107)) (K' := [(53, some 2, fun _ => o8), (107, none, (vp_updL ((J 107)) (0 : Int32).toNatClampNeg r12.toInt64))]) hc rfl rfl sh_107 hb rfl rfl rfl rfl ?_
    refine g_goto hc rfl ?_
    refine g_iconst (pc' := 24) (v := (0 : Int32)) hc rfl zki_0 rfl ?_
    replace h := zws h
    exact g_ireturn hc rfl rfl rfl (fun _ => ⟨rfl, rfl⟩) h
  · by_cases hE : E13 = x_N
    · replace h := zwp_t h hE
      replace h := zws h
      exact z_poh (L' := [(26, none, o10), (29, none, o11), (52, none, o9), (53, some 0, fun _ => o4), (53, some 1, fun _ => o6), (53, some 3, fun _ => o2), (54, none, o1), (55, none, o7), (56, none, o3), (57, none, o5)]) (K' := [(53, some 2, fun _ => o8), (107, none, (J 107))]) (zhd2a (e := 12) (pc := 7) rfl hE) rfl rfl rfl rfl rfl rfl rfl rfl h
    replace h := zwp_f h hE
    have hN := hE
    by_cases hE : E13 = x_I
    · replace h := zwp_t h hE
      replace h := zws h
      exact z_poh (L' := [(26, none, o10), (29, none, o11), (52, none, o9), (53, some 0, fun _ => o4), (53, some 1, fun _ => o6), (53, some 3, fun _ => o2), (54, none, o1), (55, none, o7), (56, none, o3), (57, none, o5)]) (K' := [(53, some 2, fun _ => o8), (107, none, (J 107))]) (zhd2b (e := 12) (pc := 7) rfl hN hE) rfl rfl rfl rfl rfl rfl rfl rfl h
    replace h := zwp_f h hE
    exact (zwn h).elim
set_option maxRecDepth 4000 in
theorem ok_X11_addMeetings_0_q {I : pI} {J : pJ} {Q : pQ} {d : Nat} (hd : 2 ≤ d) (h : zwp (f_X11_addMeetings (I 54) (I 53 3) (I 73) (I 19 3)) (fun o0 => Q (.inl none) (zS 19 7 I [(73, none, o0)] J []))) : pm_call M cost zext d 141 [.ref 0] (pm_st 108 (shp 19 7) I J) Q := by
  obtain ⟨d, rfl⟩ := zd1 hd rfl
  have hc := pm_call_m (M := M) (cost := cost) zext_m d
  refine z_in (L := [(73, none, (I 73))]) (K := []) (ls := [some (.ref 0), none]) zmt_141 zco_141 rfl rfl (zid_a zid_n) zid_n ?_
  delta f_X11_addMeetings at h
  refine g_iconst (pc' := 1) (v := (0 : Int32)) hc rfl zki_0 rfl ?_
  refine g_istore_n (pc' := 2) (ls1 := [some (.ref 0), some (.int (0 : Int32))]) hc rfl (zlt rfl) rfl rfl ?_
  refine zjn (G := (fun (y4 : (Nat → Int32)) => ∀ z3 : Option Value, znl z3 = true → pm_ev C_X11_addMeetings (d + 1) (pm_call M cost zext d) cost (false, false) 108 0 0 Q 54 [some (.ref 0), z3] [] 0 0 (zS 19 7 I [(73, none, y4)] J []))) (zwp_bind h) ?_ (fun h => ?_)
  · rintro y4 h z3 hz3
    replace h := zws h
    exact g_return hc rfl rfl (fun _ => ⟨rfl, rfl⟩) h
  refine zitr_ev (G := (fun (g : Int32 × (Nat → Int32)) => match g with | (x1, x2) => pm_ev C_X11_addMeetings (d + 1) (pm_call M cost zext d) cost (false, false) 108 0 0 Q 2 [some (.ref 0), some (.int x1)] [] 0 0 (zS 19 7 I [(73, none, x2)] J []))) ?_ zFU ((0 : Int32), (I 73)) h
  rintro ⟨x1, x2⟩ h
  refine g_iload_n (pc' := 3)  hc rfl rfl rfl ?_
  refine g_aload_n (pc' := 4)  hc rfl rfl rfl rfl ?_
  refine z_getR (pc' := 7)  hc rfl rfl rfl sh_0 rfl rfl ?_
  refine z_getI (pc' := 10) (v := (I 19 3)) hc rfl rfl rfl sh_19 rfl rfl rfl ?_
  refine g_icmp_ge (pc' := 13) hc rfl rfl (fun hx => ?_) (fun hx => ?_)
  · replace h := zwp_t h hx
    replace h := zwp_r h
    exact h (some (.int x1)) rfl
  · replace h := zwp_f h hx
    refine g_aload_n (pc' := 14)  hc rfl rfl rfl rfl ?_
    refine z_getR (pc' := 17)  hc rfl rfl rfl sh_0 rfl rfl ?_
    refine g_iload_n (pc' := 18)  hc rfl rfl rfl ?_
    refine g_aload_n (pc' := 19)  hc rfl rfl rfl rfl ?_
    refine z_getR (pc' := 22)  hc rfl rfl rfl sh_0 rfl rfl ?_
    refine g_iload_n (pc' := 23)  hc rfl rfl rfl ?_
    have hb := (zwp_bnd h).1
    replace h := (zwp_bnd h).2
    refine z_iaload (pc' := 24) (v := (x2 x1.toNatClampNeg)) hc rfl rfl sh_73 hb rfl rfl ?_
    refine g_aload_n (pc' := 25)  hc rfl rfl rfl rfl ?_
    refine z_getR (pc' := 28)  hc rfl rfl rfl sh_0 rfl rfl ?_
    refine g_aload_n (pc' := 29)  hc rfl rfl rfl rfl ?_
    refine z_getR (pc' := 32)  hc rfl rfl rfl sh_0 rfl rfl ?_
    refine z_getR (pc' := 35)  hc rfl rfl rfl sh_53 rfl rfl ?_
    refine g_iload_n (pc' := 36)  hc rfl rfl rfl ?_
    have hb := (zwp_bnd h).1
    replace h := (zwp_bnd h).2
    refine z_iaload (pc' := 37) (v := (((I 54)) x1.toNatClampNeg)) hc rfl rfl sh_54 hb rfl rfl ?_
    refine z_virt (as := [.int (((I 54)) x1.toNatClampNeg)]) (a := 53) (r := [.int (x2 x1.toNatClampNeg), .int x1, .ref 73]) hc rfl rfl rfl rfl sh_53 rfl zco_72 rfl rfl rfl ?_
    refine ok_X8_figuresAt_53 (zdp hd rfl) (zwp_mono (zwp_bind h) ?_)
    rintro r5 h
    refine z_po (pc' := 40) (st' := [.int r5, .int (x2 x1.toNatClampNeg), .int x1, .ref 73]) (v := (some (.int r5))) (L' := [(73, none, x2)]) (K' := []) zco_72 rfl rfl rfl rfl rfl rfl rfl rfl ?_
    refine g_iconst (pc' := 41) (v := (1 : Int32)) hc rfl zki_1 rfl ?_
    refine g_iload_n (pc' := 42)  hc rfl rfl rfl ?_
    refine g_ishl (pc' := 43)  hc rfl rfl ?_
    refine g_iconst (pc' := 44) (v := (-1 : Int32)) hc rfl zki_m1 rfl ?_
    refine g_ixor (pc' := 45)  hc rfl rfl ?_
    refine g_iand (pc' := 46)  hc rfl rfl ?_
    refine g_ior (pc' := 47)  hc rfl rfl ?_
    have hb := (zwp_bnd h).1
    replace h := (zwp_bnd h).2
    refine z_iastore (pc' := 48) (g := x2) (L' := [(73, none, (upd x2 x1.toNatClampNeg ((x2 x1.toNatClampNeg) ||| (r5 &&& (((1 : Int32) <<< (x1 &&& 31)) ^^^ (-1 : Int32))))))]) hc rfl rfl sh_73 hb rfl rfl rfl rfl ?_
    refine g_iinc (pc' := 51) (ls1 := [some (.ref 0), some (.int (x1 + (1 : Int32)))]) hc rfl rfl zki_1 (zlt rfl) rfl rfl ?_
    refine g_goto hc rfl ?_
    replace h := zwp_l h
    exact h
set_option maxRecDepth 4000 in
theorem ok_X11_noneMeets_0_q {I : pI} {J : pJ} {a1 : Int32} {Q : pQ} {d : Nat} (hd : 1 ≤ d) (h : zwp (f_X11_noneMeets a1 (I 73) (I 19 3)) (fun r => Q (.inl (some (.int r))) (zS 19 7 I [] J []))) : pm_call M cost zext d 142 [.ref 0, .int a1] (pm_st 108 (shp 19 7) I J) Q := by
  obtain ⟨d, rfl⟩ := zd1 hd rfl
  have hc := pm_call_m (M := M) (cost := cost) zext_m d
  refine z_in (L := []) (K := []) (ls := [some (.ref 0), some (.int a1), none]) zmt_142 zco_142 rfl rfl zid_n zid_n ?_
  delta f_X11_noneMeets at h
  refine g_iconst (pc' := 1) (v := (0 : Int32)) hc rfl zki_0 rfl ?_
  refine g_istore_n (pc' := 2) (ls1 := [some (.ref 0), some (.int a1), some (.int (0 : Int32))]) hc rfl (zlt rfl) rfl rfl ?_
  refine zjs (G := (fun (_ : Unit) => ∀ z2 : Option Value, znl z2 = true → pm_ev C_X11_noneMeets (d + 1) (pm_call M cost zext d) cost (false, false) 108 0 0 Q 42 [some (.ref 0), some (.int a1), z2] [] 0 0 (zS 19 7 I [] J []))) h ?_ (fun h => ?_)
  · rintro _ h z2 hz2
    refine g_iconst (pc' := 43) (v := (1 : Int32)) hc rfl zki_1 rfl ?_
    replace h := zws h
    exact g_ireturn hc rfl rfl rfl (fun _ => ⟨rfl, rfl⟩) h
  refine zitr_ev (G := (fun (x1 : Int32) => pm_ev C_X11_noneMeets (d + 1) (pm_call M cost zext d) cost (false, false) 108 0 0 Q 2 [some (.ref 0), some (.int a1), some (.int x1)] [] 0 0 (zS 19 7 I [] J []))) ?_ zFU (0 : Int32) h
  rintro x1 h
  refine g_iload_n (pc' := 3)  hc rfl rfl rfl ?_
  refine g_aload_n (pc' := 4)  hc rfl rfl rfl rfl ?_
  refine z_getR (pc' := 7)  hc rfl rfl rfl sh_0 rfl rfl ?_
  refine z_getI (pc' := 10) (v := (I 19 3)) hc rfl rfl rfl sh_19 rfl rfl rfl ?_
  refine g_icmp_ge (pc' := 13) hc rfl rfl (fun hx => ?_) (fun hx => ?_)
  · replace h := zwp_t h hx
    replace h := zwp_r h
    exact h (some (.int x1)) rfl
  · replace h := zwp_f h hx
    refine g_iload_n (pc' := 14)  hc rfl rfl rfl ?_
    refine g_iload_n (pc' := 15)  hc rfl rfl rfl ?_
    refine g_ishr (pc' := 16)  hc rfl rfl ?_
    refine g_iconst (pc' := 17) (v := (1 : Int32)) hc rfl zki_1 rfl ?_
    refine g_iand (pc' := 18)  hc rfl rfl ?_
    refine g_if_ne (pc' := 21) hc rfl rfl (fun hx => ?_) (fun hx => ?_)
    · replace h := zwp_f h hx
      refine g_iinc (pc' := 39) (ls1 := [some (.ref 0), some (.int a1), some (.int (x1 + (1 : Int32)))]) hc rfl rfl zki_1 (zlt rfl) rfl rfl ?_
      refine g_goto hc rfl ?_
      replace h := zwp_l h
      exact h
    · replace h := zwp_t h hx
      refine g_aload_n (pc' := 22)  hc rfl rfl rfl rfl ?_
      refine z_getR (pc' := 25)  hc rfl rfl rfl sh_0 rfl rfl ?_
      refine g_iload_n (pc' := 26)  hc rfl rfl rfl ?_
      have hb := (zwp_bnd h).1
      replace h := (zwp_bnd h).2
      refine z_iaload (pc' := 27) (v := (((I 73)) x1.toNatClampNeg)) hc rfl rfl sh_73 hb rfl rfl ?_
      refine g_iload_n (pc' := 28)  hc rfl rfl rfl ?_
      refine g_iconst (pc' := 29) (v := (-1 : Int32)) hc rfl zki_m1 rfl ?_
      refine g_ixor (pc' := 30)  hc rfl rfl ?_
      refine g_iand (pc' := 31)  hc rfl rfl ?_
      refine g_if_eq (pc' := 34) hc rfl rfl (fun hx => ?_) (fun hx => ?_)
      · replace h := zwp_t h hx
        refine g_iinc (pc' := 39) (ls1 := [some (.ref 0), some (.int a1), some (.int (x1 + (1 : Int32)))]) hc rfl rfl zki_1 (zlt rfl) rfl rfl ?_
        refine g_goto hc rfl ?_
        replace h := zwp_l h
        exact h
      · replace h := zwp_f h hx
        refine g_iconst (pc' := 35) (v := (0 : Int32)) hc rfl zki_0 rfl ?_
        replace h := zws h
        exact g_ireturn hc rfl rfl rfl (fun _ => ⟨rfl, rfl⟩) h
set_option maxRecDepth 4000 in
theorem ok_X11_toThin_0_q {I : pI} {J : pJ} {a1 : Int32} {Q : pQ} {d : Nat} (hd : 8 ≤ d) (h : zwp (f_X11_toThin a1 (I 54) (I 53 3) (I 56) (I 53 0) (I 57) (I 53 1) (I 55) (J 53 2) (I 73) (I 52) (I 32) (I 31 3) (I 34) (I 31 0) (I 35) (I 31 1) (I 33) (J 31 2) (I 19 12) (I 19 3) (I 27) (I 25 2) (I 26) (I 19 1) (I 30) (I 28 2) (I 29) (I 24) (I 19 9) (I 21) (I 22) (I 19 0)) (fun w => match w with | (.inl r, o0, o1, o2, o3, o4, o5, o6, o7, o8, o9, o10, o11) => Q (.inl (some (.int r))) (zS 19 7 I [(26, none, o10), (29, none, o11), (52, none, o9), (53, some 0, fun _ => o3), (53, some 1, fun _ => o5), (53, some 3, fun _ => o1), (54, none, o0), (55, none, o6), (56, none, o2), (57, none, o4), (73, none, o8)] J [(53, some 2, fun _ => o7)]) | (.inr E, o0, o1, o2, o3, o4, o5, o6, o7, o8, o9, o10, o11) => Q (.inr E) (zS 19 7 I [(26, none, o10), (29, none, o11), (52, none, o9), (53, some 0, fun _ => o3), (53, some 1, fun _ => o5), (53, some 3, fun _ => o1), (54, none, o0), (55, none, o6), (56, none, o2), (57, none, o4), (73, none, o8)] J [(53, some 2, fun _ => o7)]))) : pm_call M cost zext d 117 [.ref 0, .int a1] (pm_st 108 (shp 19 7) I J) Q := by
  obtain ⟨d, rfl⟩ := zd1 hd rfl
  have hc := pm_call_m (M := M) (cost := cost) zext_m d
  refine z_in (L := [(26, none, (I 26)), (29, none, (I 29)), (52, none, (I 52)), (53, some 0, fun _ => (I 53 0)), (53, some 1, fun _ => (I 53 1)), (53, some 3, fun _ => (I 53 3)), (54, none, (I 54)), (55, none, (I 55)), (56, none, (I 56)), (57, none, (I 57)), (73, none, (I 73))]) (K := [(53, some 2, fun _ => (J 53 2))]) (ls := [some (.ref 0), some (.int a1), none, none]) zmt_117 zco_117 rfl rfl (zid_a (zid_a (zid_a (zid_s (zid_s (zid_s (zid_a (zid_a (zid_a (zid_a (zid_a zid_n))))))))))) (zid_s zid_n) ?_
  delta f_X11_toThin at h
  refine g_iload_n (pc' := 1)  hc rfl rfl rfl ?_
  refine g_iconst (pc' := 2) (v := (0 : Int32)) hc rfl zki_0 rfl ?_
  refine g_bipush (pc' := 4) (v := (60 : Int32)) hc rfl zkb_60 rfl ?_
  refine z_stat (as := [.int a1, .int (0 : Int32), .int (60 : Int32)]) (r := []) hc rfl rfl rfl rfl zco_136 rfl rfl rfl ?_
  refine ok_X11_checkHours (zdp hd rfl) (zwp_mono (zwp_bind h) ?_)
  rintro (⟨⟩ | E1) h
  · refine z_po (pc' := 7) (st' := []) (v := none) (L' := [(26, none, (I 26)), (29, none, (I 29)), (52, none, (I 52)), (53, some 0, fun _ => (I 53 0)), (53, some 1, fun _ => (I 53 1)), (53, some 3, fun _ => (I 53 3)), (54, none, (I 54)), (55, none, (I 55)), (56, none, (I 56)), (57, none, (I 57)), (73, none, (I 73))]) (K' := [(53, some 2, fun _ => (J 53 2))]) zco_136 rfl rfl rfl rfl rfl rfl rfl rfl ?_
    refine g_aload_n (pc' := 8)  hc rfl rfl rfl rfl ?_
    refine z_getR (pc' := 11)  hc rfl rfl rfl sh_0 rfl rfl ?_
    refine g_iconst (pc' := 12) (v := (0 : Int32)) hc rfl zki_0 rfl ?_
    refine z_stat (as := [.ref 73, .int (0 : Int32)]) (r := []) hc rfl rfl rfl rfl zco_268 rfl rfl rfl ?_
    refine ok_J7_fill_53178_73 (zdp hd rfl) (zwp_mono (zwp_bind h) ?_)
    rintro o2 h
    refine z_po (pc' := 15) (st' := []) (v := none) (L' := [(26, none, (I 26)), (29, none, (I 29)), (52, none, (I 52)), (53, some 0, fun _ => (I 53 0)), (53, some 1, fun _ => (I 53 1)), (53, some 3, fun _ => (I 53 3)), (54, none, (I 54)), (55, none, (I 55)), (56, none, (I 56)), (57, none, (I 57)), (73, none, o2)]) (K' := [(53, some 2, fun _ => (J 53 2))]) zco_268 rfl rfl rfl rfl rfl rfl rfl rfl ?_
    refine g_aload_n (pc' := 16)  hc rfl rfl rfl rfl ?_
    refine g_iconst (pc' := 17) (v := (0 : Int32)) hc rfl zki_0 rfl ?_
    refine z_virt (as := [.int (0 : Int32)]) (a := 0) (r := []) hc rfl rfl rfl rfl sh_0 rfl zco_139 rfl rfl rfl ?_
    refine ok_X11_foresee_0_q (zdp hd rfl) (zwp_mono (zwp_bind h) ?_)
    rintro ⟨o3, o4, o5, o6, o7, o8, o9, o10, o11, o12, o13⟩ h
    refine z_po (pc' := 20) (st' := []) (v := none) (L' := [(26, none, o12), (29, none, o13), (52, none, o11), (53, some 0, fun _ => o6), (53, some 1, fun _ => o8), (53, some 3, fun _ => o4), (54, none, o3), (55, none, o9), (56, none, o5), (57, none, o7), (73, none, o2)]) (K' := [(53, some 2, fun _ => o10)]) zco_139 rfl rfl rfl rfl rfl rfl rfl rfl ?_
    refine g_aload_n (pc' := 21)  hc rfl rfl rfl rfl ?_
    refine z_virt (as := []) (a := 0) (r := []) hc rfl rfl rfl rfl sh_0 rfl zco_141 rfl rfl rfl ?_
    refine ok_X11_addMeetings_0_q (zdp hd rfl) (zwp_mono (zwp_bind h) ?_)
    rintro o14 h
    refine z_po (pc' := 24) (st' := []) (v := none) (L' := [(26, none, o12), (29, none, o13), (52, none, o11), (53, some 0, fun _ => o6), (53, some 1, fun _ => o8), (53, some 3, fun _ => o4), (54, none, o3), (55, none, o9), (56, none, o5), (57, none, o7), (73, none, o14)]) (K' := [(53, some 2, fun _ => o10)]) zco_141 rfl rfl rfl rfl rfl rfl rfl rfl ?_
    refine g_iconst (pc' := 25) (v := (1 : Int32)) hc rfl zki_1 rfl ?_
    refine g_istore_n (pc' := 26) (ls1 := [some (.ref 0), some (.int a1), some (.int (1 : Int32)), none]) hc rfl (zlt rfl) rfl rfl ?_
    refine zjn (G := (fun (g : (Nat → Int32) × (Nat → Int32) × Int32 × (Nat → Int32) × (Nat → Int32) × (Nat → Int32) × (Nat → Int32) × (Nat → Int32)) => match g with | (y25, y26, y27, y28, y29, y30, y31, y32) => ∀ z24 : Option Value, znl z24 = true → pm_ev C_X11_toThin (d + 1) (pm_call M cost zext d) cost (false, false) 108 1 6 Q 45 [some (.ref 0), some (.int a1), z24, none] [] 0 0 (zS 19 7 I [(26, none, y31), (29, none, y32), (52, none, y30), (53, some 0, fun _ => y27), (53, some 1, fun _ => o8), (53, some 3, fun _ => o4), (54, none, y25), (55, none, y28), (56, none, y26), (57, none, o7), (73, none, y29)] J [(53, some 2, fun _ => o10)]))) (zwp_bind h) ?_ (fun h => ?_)
    · rintro ⟨y25, y26, y27, y28, y29, y30, y31, y32⟩ h z24 hz24
      refine g_iconst (pc' := 46) (v := (1 : Int32)) hc rfl zki_1 rfl ?_
      refine g_aload_n (pc' := 47)  hc rfl rfl rfl rfl ?_
      refine z_getR (pc' := 50)  hc rfl rfl rfl sh_0 rfl rfl ?_
      refine z_getI (pc' := 53) (v := (I 19 3)) hc rfl rfl rfl sh_19 rfl rfl rfl ?_
      refine g_ishl (pc' := 54)  hc rfl rfl ?_
      refine g_iconst (pc' := 55) (v := (1 : Int32)) hc rfl zki_1 rfl ?_
      refine g_isub (pc' := 56)  hc rfl rfl ?_
      refine g_istore_n (pc' := 57) (ls1 := [some (.ref 0), some (.int a1), some (.int (((1 : Int32) <<< (((I 19 3)) &&& 31)) - (1 : Int32))), none]) hc rfl (zlt rfl) rfl rfl ?_
      refine g_iload_n (pc' := 58)  hc rfl rfl rfl ?_
      refine g_istore_n (pc' := 59) (ls1 := [some (.ref 0), some (.int a1), some (.int (((1 : Int32) <<< (((I 19 3)) &&& 31)) - (1 : Int32))), some (.int (((1 : Int32) <<< (((I 19 3)) &&& 31)) - (1 : Int32)))]) hc rfl (zlt rfl) rfl rfl ?_
      refine zjn (G := (fun (y35 : Int32) => ∀ z36 : Option Value, znl z36 = true → pm_ev C_X11_toThin (d + 1) (pm_call M cost zext d) cost (false, false) 108 1 6 Q 90 [some (.ref 0), some (.int a1), some (.int y35), z36] [] 0 0 (zS 19 7 I [(26, none, y31), (29, none, y32), (52, none, y30), (53, some 0, fun _ => y27), (53, some 1, fun _ => o8), (53, some 3, fun _ => o4), (54, none, y25), (55, none, y28), (56, none, y26), (57, none, o7), (73, none, y29)] J [(53, some 2, fun _ => o10)]))) (zwp_bind h) ?_ (fun h => ?_)
      · rintro y35 h z36 hz36
        refine g_iload_n (pc' := 91)  hc rfl rfl rfl ?_
        replace h := zws h
        exact g_ireturn hc rfl rfl rfl (fun _ => ⟨rfl, rfl⟩) h
      refine zitr_ev (G := (fun (g : Int32 × Int32) => match g with | (x33, x34) => pm_ev C_X11_toThin (d + 1) (pm_call M cost zext d) cost (false, false) 108 1 6 Q 59 [some (.ref 0), some (.int a1), some (.int x33), some (.int x34)] [] 0 0 (zS 19 7 I [(26, none, y31), (29, none, y32), (52, none, y30), (53, some 0, fun _ => y27), (53, some 1, fun _ => o8), (53, some 3, fun _ => o4), (54, none, y25), (55, none, y28), (56, none, y26), (57, none, o7), (73, none, y29)] J [(53, some 2, fun _ => o10)]))) ?_ zFU ((((1 : Int32) <<< (((I 19 3)) &&& 31)) - (1 : Int32)), (((1 : Int32) <<< (((I 19 3)) &&& 31)) - (1 : Int32))) h
      rintro ⟨x33, x34⟩ h
      refine g_iload_n (pc' := 60)  hc rfl rfl rfl ?_
      refine g_if_lt (pc' := 63) hc rfl rfl (fun hx => ?_) (fun hx => ?_)
      · replace h := zwp_t h hx
        replace h := zwp_r h
        exact h (some (.int x34)) rfl
      · replace h := zwp_f h hx
        refine g_iload_n (pc' := 64)  hc rfl rfl rfl ?_
        refine z_stat (as := [.int x34]) (r := []) hc rfl rfl rfl rfl zco_265 rfl rfl rfl ?_
        refine ok_J6_bitCount_0f7a4 (zdp hd rfl) (zwp_mono (zwp_bind h) ?_)
        rintro r37 h
        refine z_po (pc' := 67) (st' := [.int r37]) (v := (some (.int r37))) (L' := [(26, none, y31), (29, none, y32), (52, none, y30), (53, some 0, fun _ => y27), (53, some 1, fun _ => o8), (53, some 3, fun _ => o4), (54, none, y25), (55, none, y28), (56, none, y26), (57, none, o7), (73, none, y29)]) (K' := [(53, some 2, fun _ => o10)]) zco_265 rfl rfl rfl rfl rfl rfl rfl rfl ?_
        refine g_iload_n (pc' := 68)  hc rfl rfl rfl ?_
        refine z_stat (as := [.int x33]) (r := [.int r37]) hc rfl rfl rfl rfl zco_265 rfl rfl rfl ?_
        refine ok_J6_bitCount_0f7a4 (zdp hd rfl) (zwp_mono (zwp_bind h) ?_)
        rintro r38 h
        refine z_po (pc' := 71) (st' := [.int r38, .int r37]) (v := (some (.int r38))) (L' := [(26, none, y31), (29, none, y32), (52, none, y30), (53, some 0, fun _ => y27), (53, some 1, fun _ => o8), (53, some 3, fun _ => o4), (54, none, y25), (55, none, y28), (56, none, y26), (57, none, o7), (73, none, y29)]) (K' := [(53, some 2, fun _ => o10)]) zco_265 rfl rfl rfl rfl rfl rfl rfl rfl ?_
        refine g_icmp_gt (pc' := 74) hc rfl rfl (fun hx => ?_) (fun hx => ?_)
        · replace h := zwp_t h hx
          refine g_iinc (pc' := 87) (ls1 := [some (.ref 0), some (.int a1), some (.int x33), some (.int (x34 + (-1 : Int32)))]) hc rfl rfl zki_m1 (zlt rfl) rfl rfl ?_
          refine g_goto hc rfl ?_
          replace h := zwp_l h
          exact h
        · replace h := zwp_f h hx
          refine g_aload_n (pc' := 75)  hc rfl rfl rfl rfl ?_
          refine g_iload_n (pc' := 76)  hc rfl rfl rfl ?_
          refine z_virt (as := [.int x34]) (a := 0) (r := []) hc rfl rfl rfl rfl sh_0 rfl zco_142 rfl rfl rfl ?_
          refine ok_X11_noneMeets_0_q (zdp hd rfl) (zwp_mono (zwp_bind h) ?_)
          rintro r39 h
          refine z_po (pc' := 79) (st' := [.int r39]) (v := (some (.int r39))) (L' := [(26, none, y31), (29, none, y32), (52, none, y30), (53, some 0, fun _ => y27), (53, some 1, fun _ => o8), (53, some 3, fun _ => o4), (54, none, y25), (55, none, y28), (56, none, y26), (57, none, o7), (73, none, y29)]) (K' := [(53, some 2, fun _ => o10)]) zco_142 rfl rfl rfl rfl rfl rfl rfl rfl ?_
          refine g_if_eq (pc' := 82) hc rfl rfl (fun hx => ?_) (fun hx => ?_)
          · replace h := zwp_t h hx
            refine g_iinc (pc' := 87) (ls1 := [some (.ref 0), some (.int a1), some (.int x33), some (.int (x34 + (-1 : Int32)))]) hc rfl rfl zki_m1 (zlt rfl) rfl rfl ?_
            refine g_goto hc rfl ?_
            replace h := zwp_l h
            exact h
          · replace h := zwp_f h hx
            refine g_iload_n (pc' := 83)  hc rfl rfl rfl ?_
            refine g_istore_n (pc' := 84) (ls1 := [some (.ref 0), some (.int a1), some (.int x34), some (.int x34)]) hc rfl (zlt rfl) rfl rfl ?_
            refine g_iinc (pc' := 87) (ls1 := [some (.ref 0), some (.int a1), some (.int x34), some (.int (x34 + (-1 : Int32)))]) hc rfl rfl zki_m1 (zlt rfl) rfl rfl ?_
            refine g_goto hc rfl ?_
            replace h := zwp_l h
            exact h
    refine zitr_ev (G := (fun (g : Int32 × (Nat → Int32) × (Nat → Int32) × Int32 × (Nat → Int32) × (Nat → Int32) × (Nat → Int32) × (Nat → Int32) × (Nat → Int32)) => match g with | (x15, x16, x17, x18, x19, x20, x21, x22, x23) => pm_ev C_X11_toThin (d + 1) (pm_call M cost zext d) cost (false, false) 108 1 6 Q 26 [some (.ref 0), some (.int a1), some (.int x15), none] [] 0 0 (zS 19 7 I [(26, none, x22), (29, none, x23), (52, none, x21), (53, some 0, fun _ => x18), (53, some 1, fun _ => o8), (53, some 3, fun _ => o4), (54, none, x16), (55, none, x19), (56, none, x17), (57, none, o7), (73, none, x20)] J [(53, some 2, fun _ => o10)]))) ?_ zFU ((1 : Int32), o3, o5, o6, o9, o14, o11, o12, o13) h
    rintro ⟨x15, x16, x17, x18, x19, x20, x21, x22, x23⟩ h
    refine g_iload_n (pc' := 27)  hc rfl rfl rfl ?_
    refine g_iload_n (pc' := 28)  hc rfl rfl rfl ?_
    refine g_icmp_gt (pc' := 31) hc rfl rfl (fun hx => ?_) (fun hx => ?_)
    · replace h := zwp_t h hx
      replace h := zwp_r h
      exact h (some (.int x15)) rfl
    · replace h := zwp_f h hx
      refine g_aload_n (pc' := 32)  hc rfl rfl rfl rfl ?_
      refine z_virt (as := []) (a := 0) (r := []) hc rfl rfl rfl rfl sh_0 rfl zco_140 rfl rfl rfl ?_
      refine ok_X11_passFuture_0_q (zdp hd rfl) (zwp_mono (zwp_bind h) ?_)
      rintro ⟨o40, o41, o42, o43, o44, o45, o46⟩ h
      refine z_po (pc' := 35) (st' := []) (v := none) (L' := [(26, none, o45), (29, none, o46), (52, none, o44), (53, some 0, fun _ => o42), (53, some 1, fun _ => o8), (53, some 3, fun _ => o4), (54, none, o40), (55, none, o43), (56, none, o41), (57, none, o7), (73, none, x20)]) (K' := [(53, some 2, fun _ => o10)]) zco_140 rfl rfl rfl rfl rfl rfl rfl rfl ?_
      refine g_aload_n (pc' := 36)  hc rfl rfl rfl rfl ?_
      refine z_virt (as := []) (a := 0) (r := []) hc rfl rfl rfl rfl sh_0 rfl zco_141 rfl rfl rfl ?_
      refine ok_X11_addMeetings_0_q (zdp hd rfl) (zwp_mono (zwp_bind h) ?_)
      rintro o47 h
      refine z_po (pc' := 39) (st' := []) (v := none) (L' := [(26, none, o45), (29, none, o46), (52, none, o44), (53, some 0, fun _ => o42), (53, some 1, fun _ => o8), (53, some 3, fun _ => o4), (54, none, o40), (55, none, o43), (56, none, o41), (57, none, o7), (73, none, o47)]) (K' := [(53, some 2, fun _ => o10)]) zco_141 rfl rfl rfl rfl rfl rfl rfl rfl ?_
      refine g_iinc (pc' := 42) (ls1 := [some (.ref 0), some (.int a1), some (.int (x15 + (1 : Int32))), none]) hc rfl rfl zki_1 (zlt rfl) rfl rfl ?_
      refine g_goto hc rfl ?_
      replace h := zwp_l h
      exact h
  · replace h := zws h
    exact z_pox (L' := [(26, none, (I 26)), (29, none, (I 29)), (52, none, (I 52)), (53, some 0, fun _ => (I 53 0)), (53, some 1, fun _ => (I 53 1)), (53, some 3, fun _ => (I 53 3)), (54, none, (I 54)), (55, none, (I 55)), (56, none, (I 56)), (57, none, (I 57)), (73, none, (I 73))]) (K' := [(53, some 2, fun _ => (J 53 2))]) rfl rfl rfl rfl rfl rfl rfl h
set_option maxRecDepth 4000 in
theorem ok_L_toThin_0_107_q {I : pI} {J : pJ} {a1 : Int32} {Q : pQ} {d : Nat} (hd : 9 ≤ d) (h : zwp (f_L_toThin a1 1 (J 107) (I 54) (I 53 3) (I 56) (I 53 0) (I 57) (I 53 1) (I 55) (J 53 2) (I 73) (I 52) (I 32) (I 31 3) (I 34) (I 31 0) (I 35) (I 31 1) (I 33) (J 31 2) (I 19 12) (I 19 3) (I 27) (I 25 2) (I 26) (I 19 1) (I 30) (I 28 2) (I 29) (I 24) (I 19 9) (I 21) (I 22) (I 19 0)) (fun w => match w with | (r, o0, o1, o2, o3, o4, o5, o6, o7, o8, o9, o10, o11, o12) => Q (.inl (some (.int r))) (zS 19 7 I [(26, none, o11), (29, none, o12), (52, none, o10), (53, some 0, fun _ => o4), (53, some 1, fun _ => o6), (53, some 3, fun _ => o2), (54, none, o1), (55, none, o7), (56, none, o3), (57, none, o5), (73, none, o9)] J [(53, some 2, fun _ => o8), (107, none, o0)]))) : pm_call M cost zext d 287 [.ref 0, .int a1, .ref 107] (pm_st 108 (shp 19 7) I J) Q := by
  obtain ⟨d, rfl⟩ := zd1 hd rfl
  have hc := pm_call_m (M := M) (cost := cost) zext_m d
  refine z_in (L := [(26, none, (I 26)), (29, none, (I 29)), (52, none, (I 52)), (53, some 0, fun _ => (I 53 0)), (53, some 1, fun _ => (I 53 1)), (53, some 3, fun _ => (I 53 3)), (54, none, (I 54)), (55, none, (I 55)), (56, none, (I 56)), (57, none, (I 57)), (73, none, (I 73))]) (K := [(53, some 2, fun _ => (J 53 2)), (107, none, (J 107))]) (ls := [some (.ref 0), some (.int a1), some (.ref 107), none]) zmt_287 zco_287 rfl rfl (zid_a (zid_a (zid_a (zid_s (zid_s (zid_s (zid_a (zid_a (zid_a (zid_a (zid_a zid_n))))))))))) (zid_s (zid_a zid_n)) ?_
  delta f_L_toThin at h
  refine g_aload_n (pc' := 1)  hc rfl rfl rfl rfl ?_
  refine g_iconst (pc' := 2) (v := (0 : Int32)) hc rfl zki_0 rfl ?_
  refine g_aload_n (pc' := 3)  hc rfl rfl rfl rfl ?_
  refine g_iload_n (pc' := 4)  hc rfl rfl rfl ?_
  refine z_virt (as := [.int a1]) (a := 0) (r := [.int (0 : Int32), .ref 107]) hc rfl rfl rfl rfl sh_0 rfl zco_117 rfl rfl rfl ?_
  refine ok_X11_toThin_0_q (zdp hd rfl) (zwp_mono (zwp_bind h) ?_)
  rintro ⟨(r13 | E14), o1, o2, o3, o4, o5, o6, o7, o8, o9, o10, o11, o12⟩ h
  · refine z_po (pc' := 7) (st' := [.int r13, .int (0 : Int32), .ref 107]) (v := (some (.int r13))) (L' := [(26, none, o11), (29, none, o12), (52, none, o10), (53, some 0, fun _ => o4), (53, some 1, fun _ => o6), (53, some 3, fun _ => o2), (54, none, o1), (55, none, o7), (56, none, o3), (57, none, o5), (73, none, o9)]) (K' := [(53, some 2, fun _ => o8), (107, none, (J 107))]) zco_117 rfl rfl rfl rfl rfl rfl rfl rfl ?_
    refine g_i2l (pc' := 8)  hc rfl rfl ?_
    have hb := (zwp_bnd h).1
    replace h := (zwp_bnd h).2
    refine z_lastore (pc' := 9) (g := (J 107)) (K' := [(53, some 2, fun _ => o8), (107, none, (vp_updL ((J 107)) (0 : Int32).toNatClampNeg r13.toInt64))]) hc rfl rfl sh_107 hb rfl rfl rfl rfl ?_
    refine g_goto hc rfl ?_
    refine g_iconst (pc' := 16) (v := (0 : Int32)) hc rfl zki_0 rfl ?_
    replace h := zws h
    exact g_ireturn hc rfl rfl rfl (fun _ => ⟨rfl, rfl⟩) h
  · by_cases hE : E14 = x_I
    · replace h := zwp_t h hE
      replace h := zws h
      exact z_poh (L' := [(26, none, o11), (29, none, o12), (52, none, o10), (53, some 0, fun _ => o4), (53, some 1, fun _ => o6), (53, some 3, fun _ => o2), (54, none, o1), (55, none, o7), (56, none, o3), (57, none, o5), (73, none, o9)]) (K' := [(53, some 2, fun _ => o8), (107, none, (J 107))]) (zhd1 (e := 9) (pc := 4) rfl hE) rfl rfl rfl rfl rfl rfl rfl rfl h
    replace h := zwp_f h hE
    exact (zwn h).elim
set_option maxRecDepth 4000 in
theorem ok_X7_measureAll_61_19_31_58 {p q : Nat} {I : pI} {J : pJ} {Q : pQ} {d : Nat} (hd : 4 ≤ d) (h : zwp (f_X7_measureAll (I 62) (I 19 3) (I 19 1) (I 23) (I 19 7) (I 19 0) (I 32) (J 31 2) (I 59) (I 60)) (fun w => match w with | (o0, o1, o2) => Q (.inl none) (zS p q I [(59, none, o1), (60, none, o2), (62, none, o0)] J []))) : pm_call M cost zext d 62 [.ref 61, .ref 19, .ref 31, .ref 58] (pm_st 108 (shp p q) I J) Q := by
  obtain ⟨d, rfl⟩ := zd1 hd rfl
  have hc := pm_call_m (M := M) (cost := cost) zext_m d
  refine z_in (L := [(59, none, (I 59)), (60, none, (I 60)), (62, none, (I 62))]) (K := []) (ls := [some (.ref 61), some (.ref 19), some (.ref 31), some (.ref 58), none, none]) zmt_62 zco_62 rfl rfl (zid_a (zid_a (zid_a zid_n))) zid_n ?_
  delta f_X7_measureAll at h
  refine g_iconst (pc' := 1) (v := (0 : Int32)) hc rfl zki_0 rfl ?_
  refine g_istore (pc' := 3) (ls1 := [some (.ref 61), some (.ref 19), some (.ref 31), some (.ref 58), some (.int (0 : Int32)), none]) hc rfl (zlt rfl) rfl rfl ?_
  refine zjn (G := (fun (g : (Nat → Int32) × (Nat → Int32) × (Nat → Int32)) => match g with | (y8, y9, y10) => ∀ z6 : Option Value, znl z6 = true → ∀ z7 : Option Value, znl z7 = true → pm_ev C_X7_measureAll (d + 1) (pm_call M cost zext d) cost (false, false) 108 0 0 Q 74 [some (.ref 61), some (.ref 19), some (.ref 31), some (.ref 58), z6, z7] [] 0 0 (zS p q I [(59, none, y9), (60, none, y10), (62, none, y8)] J []))) (zwp_bind h) ?_ (fun h => ?_)
  · rintro ⟨y8, y9, y10⟩ h z6 hz6 z7 hz7
    replace h := zws h
    exact g_return hc rfl rfl (fun _ => ⟨rfl, rfl⟩) h
  refine zitr_ev (G := (fun (g : Int32 × (Nat → Int32) × (Nat → Int32) × (Nat → Int32)) => match g with | (x1, x3, x4, x5) => ∀ z2 : Option Value, znl z2 = true → pm_ev C_X7_measureAll (d + 1) (pm_call M cost zext d) cost (false, false) 108 0 0 Q 3 [some (.ref 61), some (.ref 19), some (.ref 31), some (.ref 58), some (.int x1), z2] [] 0 0 (zS p q I [(59, none, x4), (60, none, x5), (62, none, x3)] J []))) ?_ zFU ((0 : Int32), (I 62), (I 59), (I 60)) h none rfl
  rintro ⟨x1, x3, x4, x5⟩ h z2 hz2
  refine g_iload (pc' := 5)  hc rfl rfl rfl ?_
  refine g_aload_n (pc' := 6)  hc rfl rfl rfl rfl ?_
  refine z_getI (pc' := 9) (v := (I 19 7)) hc rfl rfl rfl sh_19 rfl rfl rfl ?_
  refine g_icmp_ge (pc' := 12) hc rfl rfl (fun hx => ?_) (fun hx => ?_)
  · replace h := zwp_t h hx
    replace h := zwp_r h
    exact h (some (.int x1)) rfl z2 hz2
  · replace h := zwp_f h hx
    refine g_aload_n (pc' := 13)  hc rfl rfl rfl rfl ?_
    refine g_aload_n (pc' := 14)  hc rfl rfl rfl rfl ?_
    refine g_aload_n (pc' := 15)  hc rfl rfl rfl rfl ?_
    refine g_aload_n (pc' := 16)  hc rfl rfl rfl rfl ?_
    refine z_getR (pc' := 19)  hc rfl rfl rfl sh_19 rfl rfl ?_
    refine g_iload (pc' := 21)  hc rfl rfl rfl ?_
    have hb := (zwp_bnd h).1
    replace h := (zwp_bnd h).2
    refine z_iaload (pc' := 22) (v := (((I 23)) x1.toNatClampNeg)) hc rfl rfl sh_23 hb rfl rfl ?_
    refine z_virt (as := [.ref 19, .ref 31, .int (((I 23)) x1.toNatClampNeg)]) (a := 58) (r := []) hc rfl rfl rfl rfl sh_58 rfl zco_92 rfl rfl rfl ?_
    refine ok_X10_measure_58_19_31 (zdp hd rfl) (zwp_mono (zwp_bind h) ?_)
    rintro ⟨o11, o12⟩ h
    refine z_po (pc' := 25) (st' := []) (v := none) (L' := [(59, none, o11), (60, none, o12), (62, none, x3)]) (K' := []) zco_92 rfl rfl rfl rfl rfl rfl rfl rfl ?_
    refine g_iconst (pc' := 26) (v := (0 : Int32)) hc rfl zki_0 rfl ?_
    refine g_istore (pc' := 28) (ls1 := [some (.ref 61), some (.ref 19), some (.ref 31), some (.ref 58), some (.int x1), some (.int (0 : Int32))]) hc rfl (zlt rfl) rfl rfl ?_
    refine zjn (G := (fun (y16 : (Nat → Int32)) => ∀ z15 : Option Value, znl z15 = true → pm_ev C_X7_measureAll (d + 1) (pm_call M cost zext d) cost (false, false) 108 0 0 Q 68 [some (.ref 61), some (.ref 19), some (.ref 31), some (.ref 58), some (.int x1), z15] [] 0 0 (zS p q I [(59, none, o11), (60, none, o12), (62, none, y16)] J []))) (zwp_bind h) ?_ (fun h => ?_)
    · rintro y16 h z15 hz15
      refine g_iinc (pc' := 71) (ls1 := [some (.ref 61), some (.ref 19), some (.ref 31), some (.ref 58), some (.int (x1 + (1 : Int32))), z15]) hc rfl rfl zki_1 (zlt rfl) rfl rfl ?_
      refine g_goto hc rfl ?_
      replace h := zwp_l h
      exact h z15 hz15
    refine zitr_ev (G := (fun (g : Int32 × (Nat → Int32)) => match g with | (x13, x14) => pm_ev C_X7_measureAll (d + 1) (pm_call M cost zext d) cost (false, false) 108 0 0 Q 28 [some (.ref 61), some (.ref 19), some (.ref 31), some (.ref 58), some (.int x1), some (.int x13)] [] 0 0 (zS p q I [(59, none, o11), (60, none, o12), (62, none, x14)] J []))) ?_ zFU ((0 : Int32), x3) h
    rintro ⟨x13, x14⟩ h
    refine g_iload (pc' := 30)  hc rfl rfl rfl ?_
    refine g_aload_n (pc' := 31)  hc rfl rfl rfl rfl ?_
    refine z_getI (pc' := 34) (v := (I 19 3)) hc rfl rfl rfl sh_19 rfl rfl rfl ?_
    refine g_icmp_ge (pc' := 37) hc rfl rfl (fun hx => ?_) (fun hx => ?_)
    · replace h := zwp_t h hx
      replace h := zwp_r h
      exact h (some (.int x13)) rfl
    · replace h := zwp_f h hx
      refine g_aload_n (pc' := 38)  hc rfl rfl rfl rfl ?_
      refine z_getR (pc' := 41)  hc rfl rfl rfl sh_61 rfl rfl ?_
      refine g_iload (pc' := 43)  hc rfl rfl rfl ?_
      refine g_bipush (pc' := 45) (v := (8 : Int32)) hc rfl zkb_8 rfl ?_
      refine g_imul (pc' := 46)  hc rfl rfl ?_
      refine g_iload (pc' := 48)  hc rfl rfl rfl ?_
      refine g_iadd (pc' := 49)  hc rfl rfl ?_
      refine g_aload_n (pc' := 50)  hc rfl rfl rfl rfl ?_
      refine z_getR (pc' := 53)  hc rfl rfl rfl sh_58 rfl rfl ?_
      refine g_aload_n (pc' := 54)  hc rfl rfl rfl rfl ?_
      refine z_getR (pc' := 57)  hc rfl rfl rfl sh_31 rfl rfl ?_
      refine g_iload (pc' := 59)  hc rfl rfl rfl ?_
      have hb := (zwp_bnd h).1
      replace h := (zwp_bnd h).2
      refine z_iaload (pc' := 60) (v := (((I 32)) x13.toNatClampNeg)) hc rfl rfl sh_32 hb rfl rfl ?_
      have hb := (zwp_bnd h).1
      replace h := (zwp_bnd h).2
      refine z_iaload (pc' := 61) (v := (o11 (((I 32)) x13.toNatClampNeg).toNatClampNeg)) hc rfl rfl sh_59 hb rfl rfl ?_
      have hb := (zwp_bnd h).1
      replace h := (zwp_bnd h).2
      refine z_iastore (pc' := 62) (g := x14) (L' := [(59, none, o11), (60, none, o12), (62, none, (upd x14 ((x13 * (8 : Int32)) + x1).toNatClampNeg (o11 (((I 32)) x13.toNatClampNeg).toNatClampNeg)))]) hc rfl rfl sh_62 hb rfl rfl rfl rfl ?_
      refine g_iinc (pc' := 65) (ls1 := [some (.ref 61), some (.ref 19), some (.ref 31), some (.ref 58), some (.int x1), some (.int (x13 + (1 : Int32)))]) hc rfl rfl zki_1 (zlt rfl) rfl rfl ?_
      refine g_goto hc rfl ?_
      replace h := zwp_l h
      exact h
set_option maxRecDepth 4000 in
theorem ok_X7_bestFrom_61_19 {p q : Nat} {I : pI} {J : pJ} {a2 : Int32} {a3 : Int32} {Q : pQ} {d : Nat} (hd : 2 ≤ d) (h : zwp (f_X7_bestFrom a2 a3 (I 63) (I 62) (I 19 7)) (fun r => Q (.inl (some (.int r))) (zS p q I [] J []))) : pm_call M cost zext d 63 [.ref 61, .ref 19, .int a2, .int a3] (pm_st 108 (shp p q) I J) Q := by
  obtain ⟨d, rfl⟩ := zd1 hd rfl
  have hc := pm_call_m (M := M) (cost := cost) zext_m d
  refine z_in (L := []) (K := []) (ls := [some (.ref 61), some (.ref 19), some (.int a2), some (.int a3), none, none]) zmt_63 zco_63 rfl rfl zid_n zid_n ?_
  delta f_X7_bestFrom at h
  refine g_aload_n (pc' := 1)  hc rfl rfl rfl rfl ?_
  refine z_getR (pc' := 4)  hc rfl rfl rfl sh_61 rfl rfl ?_
  refine g_iload_n (pc' := 5)  hc rfl rfl rfl ?_
  refine g_iconst (pc' := 6) (v := (1 : Int32)) hc rfl zki_1 rfl ?_
  refine g_iadd (pc' := 7)  hc rfl rfl ?_
  refine g_sipush (pc' := 10) (v := (256 : Int32)) hc rfl zks_256 rfl ?_
  refine g_imul (pc' := 11)  hc rfl rfl ?_
  refine g_iload_n (pc' := 12)  hc rfl rfl rfl ?_
  refine g_iadd (pc' := 13)  hc rfl rfl ?_
  have hb := (zwp_bnd h).1
  replace h := (zwp_bnd h).2
  refine z_iaload (pc' := 14) (v := (((I 63)) (((a2 + (1 : Int32)) * (256 : Int32)) + a3).toNatClampNeg)) hc rfl rfl sh_63 hb rfl rfl ?_
  refine g_istore (pc' := 16) (ls1 := [some (.ref 61), some (.ref 19), some (.int a2), some (.int a3), some (.int (((I 63)) (((a2 + (1 : Int32)) * (256 : Int32)) + a3).toNatClampNeg)), none]) hc rfl (zlt rfl) rfl rfl ?_
  refine g_iconst (pc' := 17) (v := (0 : Int32)) hc rfl zki_0 rfl ?_
  refine g_istore (pc' := 19) (ls1 := [some (.ref 61), some (.ref 19), some (.int a2), some (.int a3), some (.int (((I 63)) (((a2 + (1 : Int32)) * (256 : Int32)) + a3).toNatClampNeg)), some (.int (0 : Int32))]) hc rfl (zlt rfl) rfl rfl ?_
  refine zjn (G := (fun (y3 : Int32) => ∀ z4 : Option Value, znl z4 = true → pm_ev C_X7_bestFrom (d + 1) (pm_call M cost zext d) cost (false, false) 108 0 0 Q 49 [some (.ref 61), some (.ref 19), some (.int a2), some (.int a3), some (.int y3), z4] [] 0 0 (zS p q I [] J []))) (zwp_bind h) ?_ (fun h => ?_)
  · rintro y3 h z4 hz4
    refine g_iload (pc' := 51)  hc rfl rfl rfl ?_
    replace h := zws h
    exact g_ireturn hc rfl rfl rfl (fun _ => ⟨rfl, rfl⟩) h
  refine zitr_ev (G := (fun (g : Int32 × Int32) => match g with | (x1, x2) => pm_ev C_X7_bestFrom (d + 1) (pm_call M cost zext d) cost (false, false) 108 0 0 Q 19 [some (.ref 61), some (.ref 19), some (.int a2), some (.int a3), some (.int x1), some (.int x2)] [] 0 0 (zS p q I [] J []))) ?_ zFU ((((I 63)) (((a2 + (1 : Int32)) * (256 : Int32)) + a3).toNatClampNeg), (0 : Int32)) h
  rintro ⟨x1, x2⟩ h
  refine g_iload (pc' := 21)  hc rfl rfl rfl ?_
  refine g_aload_n (pc' := 22)  hc rfl rfl rfl rfl ?_
  refine z_getI (pc' := 25) (v := (I 19 7)) hc rfl rfl rfl sh_19 rfl rfl rfl ?_
  refine g_icmp_ge (pc' := 28) hc rfl rfl (fun hx => ?_) (fun hx => ?_)
  · replace h := zwp_t h hx
    replace h := zwp_r h
    exact h (some (.int x2)) rfl
  · replace h := zwp_f h hx
    refine g_iload (pc' := 30)  hc rfl rfl rfl ?_
    refine g_aload_n (pc' := 31)  hc rfl rfl rfl rfl ?_
    refine g_iload_n (pc' := 32)  hc rfl rfl rfl ?_
    refine g_iload_n (pc' := 33)  hc rfl rfl rfl ?_
    refine g_iload (pc' := 35)  hc rfl rfl rfl ?_
    refine z_virt (as := [.int a2, .int a3, .int x2]) (a := 61) (r := [.int x1]) hc rfl rfl rfl rfl sh_61 rfl zco_64 rfl rfl rfl ?_
    refine ok_X7_worthAt_61 (zdp hd rfl) (zwp_mono (zwp_bind h) ?_)
    rintro r5 h
    refine z_po (pc' := 38) (st' := [.int r5, .int x1]) (v := (some (.int r5))) (L' := []) (K' := []) zco_64 rfl rfl rfl rfl rfl rfl rfl rfl ?_
    refine z_max (pc' := 41)  hc rfl rfl (zdq hd rfl) rfl rfl ?_
    refine g_istore (pc' := 43) (ls1 := [some (.ref 61), some (.ref 19), some (.int a2), some (.int a3), some (.int (if x1 < r5 then r5 else x1)), some (.int x2)]) hc rfl (zlt rfl) rfl rfl ?_
    refine g_iinc (pc' := 46) (ls1 := [some (.ref 61), some (.ref 19), some (.int a2), some (.int a3), some (.int (if x1 < r5 then r5 else x1)), some (.int (x2 + (1 : Int32)))]) hc rfl rfl zki_1 (zlt rfl) rfl rfl ?_
    refine g_goto hc rfl ?_
    replace h := zwp_l h
    exact h
set_option maxRecDepth 4000 in
theorem ok_X7_choose_61_19 {p q : Nat} {I : pI} {J : pJ} {Q : pQ} {d : Nat} (hd : 2 ≤ d) (h : zwp (f_X7_choose (I 63) (I 61 4) (I 62) (I 61 3) (I 19 3) (I 19 7) (I 64)) (fun w => match w with | (o0, o1, o2) => Q (.inl none) (zS p q I [(61, some 3, fun _ => o1), (61, some 4, fun _ => o0), (64, none, o2)] J []))) : pm_call M cost zext d 65 [.ref 61, .ref 19] (pm_st 108 (shp p q) I J) Q := by
  obtain ⟨d, rfl⟩ := zd1 hd rfl
  have hc := pm_call_m (M := M) (cost := cost) zext_m d
  refine z_in (L := [(61, some 3, fun _ => (I 61 3)), (61, some 4, fun _ => (I 61 4)), (64, none, (I 64))]) (K := []) (ls := [some (.ref 61), some (.ref 19), none, none, none]) zmt_65 zco_65 rfl rfl (zid_s (zid_s (zid_a zid_n))) zid_n ?_
  delta f_X7_choose at h
  refine g_aload_n (pc' := 1)  hc rfl rfl rfl rfl ?_
  refine g_iconst (pc' := 2) (v := (0 : Int32)) hc rfl zki_0 rfl ?_
  refine z_putI (pc' := 5) (L' := [(61, some 3, fun _ => (0 : Int32)), (61, some 4, fun _ => (I 61 4)), (64, none, (I 64))]) hc rfl rfl rfl sh_61 rfl zft_7_3 rfl (fun h => Bool.noConfusion h) rfl rfl rfl ?_
  refine g_aload_n (pc' := 6)  hc rfl rfl rfl rfl ?_
  refine g_iconst (pc' := 7) (v := (0 : Int32)) hc rfl zki_0 rfl ?_
  refine z_putI (pc' := 10) (L' := [(61, some 3, fun _ => (0 : Int32)), (61, some 4, fun _ => (0 : Int32)), (64, none, (I 64))]) hc rfl rfl rfl sh_61 rfl zft_7_4 rfl (fun h => Bool.noConfusion h) rfl rfl rfl ?_
  refine g_iconst (pc' := 11) (v := (0 : Int32)) hc rfl zki_0 rfl ?_
  refine g_istore_n (pc' := 12) (ls1 := [some (.ref 61), some (.ref 19), some (.int (0 : Int32)), none, none]) hc rfl (zlt rfl) rfl rfl ?_
  refine g_iconst (pc' := 13) (v := (0 : Int32)) hc rfl zki_0 rfl ?_
  refine g_istore_n (pc' := 14) (ls1 := [some (.ref 61), some (.ref 19), some (.int (0 : Int32)), some (.int (0 : Int32)), none]) hc rfl (zlt rfl) rfl rfl ?_
  refine zjn (G := (fun (g : Int32 × Int32 × (Nat → Int32)) => match g with | (y10, y11, y12) => ∀ z7 : Option Value, znl z7 = true → ∀ z8 : Option Value, znl z8 = true → ∀ z9 : Option Value, znl z9 = true → pm_ev C_X7_choose (d + 1) (pm_call M cost zext d) cost (false, false) 108 0 0 Q 150 [some (.ref 61), some (.ref 19), z7, z8, z9] [] 0 0 (zS p q I [(61, some 3, fun _ => y11), (61, some 4, fun _ => y10), (64, none, y12)] J []))) (zwp_bind h) ?_ (fun h => ?_)
  · rintro ⟨y10, y11, y12⟩ h z7 hz7 z8 hz8 z9 hz9
    replace h := zws h
    exact g_return hc rfl rfl (fun _ => ⟨rfl, rfl⟩) h
  refine zitr_ev (G := (fun (g : Int32 × Int32 × Int32 × Int32 × (Nat → Int32)) => match g with | (x1, x2, x4, x5, x6) => ∀ z3 : Option Value, znl z3 = true → pm_ev C_X7_choose (d + 1) (pm_call M cost zext d) cost (false, false) 108 0 0 Q 14 [some (.ref 61), some (.ref 19), some (.int x1), some (.int x2), z3] [] 0 0 (zS p q I [(61, some 3, fun _ => x5), (61, some 4, fun _ => x4), (64, none, x6)] J []))) ?_ zFU ((0 : Int32), (0 : Int32), (0 : Int32), (0 : Int32), (I 64)) h none rfl
  rintro ⟨x1, x2, x4, x5, x6⟩ h z3 hz3
  refine g_iload_n (pc' := 15)  hc rfl rfl rfl ?_
  refine g_aload_n (pc' := 16)  hc rfl rfl rfl rfl ?_
  refine z_getI (pc' := 19) (v := (I 19 3)) hc rfl rfl rfl sh_19 rfl rfl rfl ?_
  refine g_icmp_ge (pc' := 22) hc rfl rfl (fun hx => ?_) (fun hx => ?_)
  · replace h := zwp_t h hx
    replace h := zwp_r h
    exact h (some (.int x1)) rfl (some (.int x2)) rfl z3 hz3
  · replace h := zwp_f h hx
    refine g_aload_n (pc' := 23)  hc rfl rfl rfl rfl ?_
    refine z_getR (pc' := 26)  hc rfl rfl rfl sh_61 rfl rfl ?_
    refine g_iload_n (pc' := 27)  hc rfl rfl rfl ?_
    refine g_iconst (pc' := 28) (v := (-1 : Int32)) hc rfl zki_m1 rfl ?_
    have hb := (zwp_bnd h).1
    replace h := (zwp_bnd h).2
    refine z_iastore (pc' := 29) (g := x6) (L' := [(61, some 3, fun _ => x5), (61, some 4, fun _ => x4), (64, none, (upd x6 x2.toNatClampNeg (-1 : Int32)))]) hc rfl rfl sh_64 hb rfl rfl rfl rfl ?_
    refine g_iconst (pc' := 30) (v := (0 : Int32)) hc rfl zki_0 rfl ?_
    refine g_istore (pc' := 32) (ls1 := [some (.ref 61), some (.ref 19), some (.int x1), some (.int x2), some (.int (0 : Int32))]) hc rfl (zlt rfl) rfl rfl ?_
    refine zjn (G := (fun (g : Int32 × Int32 × (Nat → Int32)) => match g with | (y18, y19, y20) => ∀ z17 : Option Value, znl z17 = true → pm_ev C_X7_choose (d + 1) (pm_call M cost zext d) cost (false, false) 108 0 0 Q 119 [some (.ref 61), some (.ref 19), some (.int x1), some (.int x2), z17] [] 0 0 (zS p q I [(61, some 3, fun _ => y19), (61, some 4, fun _ => y18), (64, none, y20)] J []))) (zwp_bind h) ?_ (fun h => ?_)
    · rintro ⟨y18, y19, y20⟩ h z17 hz17
      refine g_aload_n (pc' := 120)  hc rfl rfl rfl rfl ?_
      refine z_getR (pc' := 123)  hc rfl rfl rfl sh_61 rfl rfl ?_
      refine g_iload_n (pc' := 124)  hc rfl rfl rfl ?_
      have hb := (zwp_bnd h).1
      replace h := (zwp_bnd h).2
      refine z_iaload (pc' := 125) (v := (y20 x2.toNatClampNeg)) hc rfl rfl sh_64 hb rfl rfl ?_
      refine g_iconst (pc' := 126) (v := (-1 : Int32)) hc rfl zki_m1 rfl ?_
      refine zjn (G := (fun (j21 : Int32) => pm_ev C_X7_choose (d + 1) (pm_call M cost zext d) cost (false, false) 108 0 0 Q 143 [some (.ref 61), some (.ref 19), some (.int x1), some (.int x2), z17] [.int j21] 0 0 (zS p q I [(61, some 3, fun _ => y19), (61, some 4, fun _ => y18), (64, none, y20)] J []))) (zwp_bind h) ?_ (fun h => ?_)
      · rintro j21 h
        refine g_istore_n (pc' := 144) (ls1 := [some (.ref 61), some (.ref 19), some (.int j21), some (.int x2), z17]) hc rfl (zlt rfl) rfl rfl ?_
        refine g_iinc (pc' := 147) (ls1 := [some (.ref 61), some (.ref 19), some (.int j21), some (.int (x2 + (1 : Int32))), z17]) hc rfl rfl zki_1 (zlt rfl) rfl rfl ?_
        refine g_goto hc rfl ?_
        replace h := zwp_l h
        exact h z17 hz17
      refine g_icmp_ne (pc' := 129) hc rfl rfl (fun hx => ?_) (fun hx => ?_)
      · replace h := zwp_f h hx
        refine g_iload_n (pc' := 134)  hc rfl rfl rfl ?_
        refine g_iconst (pc' := 135) (v := (1 : Int32)) hc rfl zki_1 rfl ?_
        refine g_aload_n (pc' := 136)  hc rfl rfl rfl rfl ?_
        refine z_getR (pc' := 139)  hc rfl rfl rfl sh_61 rfl rfl ?_
        refine g_iload_n (pc' := 140)  hc rfl rfl rfl ?_
        have hb := (zwp_bnd h).1
        replace h := (zwp_bnd h).2
        refine z_iaload (pc' := 141) (v := (y20 x2.toNatClampNeg)) hc rfl rfl sh_64 hb rfl rfl ?_
        refine g_ishl (pc' := 142)  hc rfl rfl ?_
        refine g_ior (pc' := 143)  hc rfl rfl ?_
        replace h := zws h
        exact h
      · replace h := zwp_t h hx
        refine g_iload_n (pc' := 130)  hc rfl rfl rfl ?_
        refine g_goto hc rfl ?_
        replace h := zws h
        exact h
    refine zitr_ev (G := (fun (g : Int32 × Int32 × Int32 × (Nat → Int32)) => match g with | (x13, x14, x15, x16) => pm_ev C_X7_choose (d + 1) (pm_call M cost zext d) cost (false, false) 108 0 0 Q 32 [some (.ref 61), some (.ref 19), some (.int x1), some (.int x2), some (.int x13)] [] 0 0 (zS p q I [(61, some 3, fun _ => x15), (61, some 4, fun _ => x14), (64, none, x16)] J []))) ?_ zFU ((0 : Int32), x4, x5, (upd x6 x2.toNatClampNeg (-1 : Int32))) h
    rintro ⟨x13, x14, x15, x16⟩ h
    refine g_iload (pc' := 34)  hc rfl rfl rfl ?_
    refine g_aload_n (pc' := 35)  hc rfl rfl rfl rfl ?_
    refine z_getI (pc' := 38) (v := (I 19 7)) hc rfl rfl rfl sh_19 rfl rfl rfl ?_
    refine g_icmp_ge (pc' := 41) hc rfl rfl (fun hx => ?_) (fun hx => ?_)
    · replace h := zwp_t h hx
      replace h := zwp_r h
      exact h (some (.int x13)) rfl
    · replace h := zwp_f h hx
      refine g_aload_n (pc' := 42)  hc rfl rfl rfl rfl ?_
      refine z_getR (pc' := 45)  hc rfl rfl rfl sh_61 rfl rfl ?_
      refine g_iload_n (pc' := 46)  hc rfl rfl rfl ?_
      have hb := (zwp_bnd h).1
      replace h := (zwp_bnd h).2
      refine z_iaload (pc' := 47) (v := (x16 x2.toNatClampNeg)) hc rfl rfl sh_64 hb rfl rfl ?_
      refine g_iconst (pc' := 48) (v := (-1 : Int32)) hc rfl zki_m1 rfl ?_
      refine g_icmp_ne (pc' := 51) hc rfl rfl (fun hx => ?_) (fun hx => ?_)
      · replace h := zwp_f h hx
        replace h := zwp_r h
        exact h (some (.int x13)) rfl
      · replace h := zwp_t h hx
        refine g_aload_n (pc' := 52)  hc rfl rfl rfl rfl ?_
        refine g_iload_n (pc' := 53)  hc rfl rfl rfl ?_
        refine g_iload_n (pc' := 54)  hc rfl rfl rfl ?_
        refine g_iload (pc' := 56)  hc rfl rfl rfl ?_
        refine z_virt (as := [.int x2, .int x1, .int x13]) (a := 61) (r := []) hc rfl rfl rfl rfl sh_61 rfl zco_64 rfl rfl rfl ?_
        refine ok_X7_worthAt_61 (zdp hd rfl) (zwp_mono (zwp_bind h) ?_)
        rintro r22 h
        refine z_po (pc' := 59) (st' := [.int r22]) (v := (some (.int r22))) (L' := [(61, some 3, fun _ => x15), (61, some 4, fun _ => x14), (64, none, x16)]) (K' := []) zco_64 rfl rfl rfl rfl rfl rfl rfl rfl ?_
        refine g_aload_n (pc' := 60)  hc rfl rfl rfl rfl ?_
        refine z_getR (pc' := 63)  hc rfl rfl rfl sh_61 rfl rfl ?_
        refine g_iload_n (pc' := 64)  hc rfl rfl rfl ?_
        refine g_sipush (pc' := 67) (v := (256 : Int32)) hc rfl zks_256 rfl ?_
        refine g_imul (pc' := 68)  hc rfl rfl ?_
        refine g_iload_n (pc' := 69)  hc rfl rfl rfl ?_
        refine g_iadd (pc' := 70)  hc rfl rfl ?_
        have hb := (zwp_bnd h).1
        replace h := (zwp_bnd h).2
        refine z_iaload (pc' := 71) (v := (((I 63)) ((x2 * (256 : Int32)) + x1).toNatClampNeg)) hc rfl rfl sh_63 hb rfl rfl ?_
        refine g_icmp_ne (pc' := 74) hc rfl rfl (fun hx => ?_) (fun hx => ?_)
        · replace h := zwp_f h hx
          refine g_iinc (pc' := 116) (ls1 := [some (.ref 61), some (.ref 19), some (.int x1), some (.int x2), some (.int (x13 + (1 : Int32)))]) hc rfl rfl zki_1 (zlt rfl) rfl rfl ?_
          refine g_goto hc rfl ?_
          replace h := zwp_l h
          exact h
        · replace h := zwp_t h hx
          refine g_aload_n (pc' := 75)  hc rfl rfl rfl rfl ?_
          refine z_getR (pc' := 78)  hc rfl rfl rfl sh_61 rfl rfl ?_
          refine g_iload_n (pc' := 79)  hc rfl rfl rfl ?_
          refine g_iload (pc' := 81)  hc rfl rfl rfl ?_
          have hb := (zwp_bnd h).1
          replace h := (zwp_bnd h).2
          refine z_iastore (pc' := 82) (g := x16) (L' := [(61, some 3, fun _ => x15), (61, some 4, fun _ => x14), (64, none, (upd x16 x2.toNatClampNeg x13))]) hc rfl rfl sh_64 hb rfl rfl rfl rfl ?_
          refine g_aload_n (pc' := 83)  hc rfl rfl rfl rfl ?_
          refine g_dup (pc' := 84)  hc rfl rfl rfl ?_
          refine z_getI (pc' := 87) (v := x15) hc rfl rfl rfl sh_61 rfl rfl rfl ?_
          refine g_iconst (pc' := 88) (v := (1 : Int32)) hc rfl zki_1 rfl ?_
          refine g_iadd (pc' := 89)  hc rfl rfl ?_
          refine z_putI (pc' := 92) (L' := [(61, some 3, fun _ => (x15 + (1 : Int32))), (61, some 4, fun _ => x14), (64, none, (upd x16 x2.toNatClampNeg x13))]) hc rfl rfl rfl sh_61 rfl zft_7_3 rfl (fun h => Bool.noConfusion h) rfl rfl rfl ?_
          refine g_aload_n (pc' := 93)  hc rfl rfl rfl rfl ?_
          refine g_dup (pc' := 94)  hc rfl rfl rfl ?_
          refine z_getI (pc' := 97) (v := x14) hc rfl rfl rfl sh_61 rfl rfl rfl ?_
          refine g_aload_n (pc' := 98)  hc rfl rfl rfl rfl ?_
          refine z_getR (pc' := 101)  hc rfl rfl rfl sh_61 rfl rfl ?_
          refine g_iload_n (pc' := 102)  hc rfl rfl rfl ?_
          refine g_bipush (pc' := 104) (v := (8 : Int32)) hc rfl zkb_8 rfl ?_
          refine g_imul (pc' := 105)  hc rfl rfl ?_
          refine g_iload (pc' := 107)  hc rfl rfl rfl ?_
          refine g_iadd (pc' := 108)  hc rfl rfl ?_
          have hb := (zwp_bnd h).1
          replace h := (zwp_bnd h).2
          refine z_iaload (pc' := 109) (v := (((I 62)) ((x2 * (8 : Int32)) + x13).toNatClampNeg)) hc rfl rfl sh_62 hb rfl rfl ?_
          refine g_iadd (pc' := 110)  hc rfl rfl ?_
          refine z_putI (pc' := 113) (L' := [(61, some 3, fun _ => (x15 + (1 : Int32))), (61, some 4, fun _ => (x14 + (((I 62)) ((x2 * (8 : Int32)) + x13).toNatClampNeg))), (64, none, (upd x16 x2.toNatClampNeg x13))]) hc rfl rfl rfl sh_61 rfl zft_7_4 rfl (fun h => Bool.noConfusion h) rfl rfl rfl ?_
          refine g_iinc (pc' := 116) (ls1 := [some (.ref 61), some (.ref 19), some (.int x1), some (.int x2), some (.int (x13 + (1 : Int32)))]) hc rfl rfl zki_1 (zlt rfl) rfl rfl ?_
          refine g_goto hc rfl ?_
          replace h := zwp_l h
          exact h
set_option maxRecDepth 4000 in
theorem ok_X7_place_61_19_31_58 {p q : Nat} {I : pI} {J : pJ} {Q : pQ} {d : Nat} (hd : 5 ≤ d) (h : zwp (f_X7_place (I 63) (I 61 4) (I 62) (I 61 3) (I 19 3) (I 19 1) (I 23) (I 19 7) (I 19 0) (I 64) (I 32) (J 31 2) (I 59) (I 60)) (fun w => match w with | (o0, o1, o2, o3, o4, o5, o6) => Q (.inl none) (zS p q I [(59, none, o5), (60, none, o6), (61, some 3, fun _ => o3), (61, some 4, fun _ => o1), (62, none, o2), (63, none, o0), (64, none, o4)] J []))) : pm_call M cost zext d 61 [.ref 61, .ref 19, .ref 31, .ref 58] (pm_st 108 (shp p q) I J) Q := by
  obtain ⟨d, rfl⟩ := zd1 hd rfl
  have hc := pm_call_m (M := M) (cost := cost) zext_m d
  refine z_in (L := [(59, none, (I 59)), (60, none, (I 60)), (61, some 3, fun _ => (I 61 3)), (61, some 4, fun _ => (I 61 4)), (62, none, (I 62)), (63, none, (I 63)), (64, none, (I 64))]) (K := []) (ls := [some (.ref 61), some (.ref 19), some (.ref 31), some (.ref 58), none, none]) zmt_61 zco_61 rfl rfl (zid_a (zid_a (zid_s (zid_s (zid_a (zid_a (zid_a zid_n))))))) zid_n ?_
  delta f_X7_place at h
  refine g_aload_n (pc' := 1)  hc rfl rfl rfl rfl ?_
  refine g_aload_n (pc' := 2)  hc rfl rfl rfl rfl ?_
  refine g_aload_n (pc' := 3)  hc rfl rfl rfl rfl ?_
  refine g_aload_n (pc' := 4)  hc rfl rfl rfl rfl ?_
  refine z_virt (as := [.ref 19, .ref 31, .ref 58]) (a := 61) (r := []) hc rfl rfl rfl rfl sh_61 rfl zco_62 rfl rfl rfl ?_
  refine ok_X7_measureAll_61_19_31_58 (zdp hd rfl) (zwp_mono (zwp_bind h) ?_)
  rintro ⟨o1, o2, o3⟩ h
  refine z_po (pc' := 7) (st' := []) (v := none) (L' := [(59, none, o2), (60, none, o3), (61, some 3, fun _ => (I 61 3)), (61, some 4, fun _ => (I 61 4)), (62, none, o1), (63, none, (I 63)), (64, none, (I 64))]) (K' := []) zco_62 rfl rfl rfl rfl rfl rfl rfl rfl ?_
  refine g_aload_n (pc' := 8)  hc rfl rfl rfl rfl ?_
  refine z_getR (pc' := 11)  hc rfl rfl rfl sh_61 rfl rfl ?_
  refine g_iconst (pc' := 12) (v := (0 : Int32)) hc rfl zki_0 rfl ?_
  refine z_stat (as := [.ref 63, .int (0 : Int32)]) (r := []) hc rfl rfl rfl rfl zco_268 rfl rfl rfl ?_
  refine ok_J7_fill_53178_63 (zdp hd rfl) (zwp_mono (zwp_bind h) ?_)
  rintro o4 h
  refine z_po (pc' := 15) (st' := []) (v := none) (L' := [(59, none, o2), (60, none, o3), (61, some 3, fun _ => (I 61 3)), (61, some 4, fun _ => (I 61 4)), (62, none, o1), (63, none, o4), (64, none, (I 64))]) (K' := []) zco_268 rfl rfl rfl rfl rfl rfl rfl rfl ?_
  refine g_aload_n (pc' := 16)  hc rfl rfl rfl rfl ?_
  refine z_getI (pc' := 19) (v := (I 19 3)) hc rfl rfl rfl sh_19 rfl rfl rfl ?_
  refine g_iconst (pc' := 20) (v := (1 : Int32)) hc rfl zki_1 rfl ?_
  refine g_isub (pc' := 21)  hc rfl rfl ?_
  refine g_istore (pc' := 23) (ls1 := [some (.ref 61), some (.ref 19), some (.ref 31), some (.ref 58), some (.int (((I 19 3)) - (1 : Int32))), none]) hc rfl (zlt rfl) rfl rfl ?_
  refine zjn (G := (fun (y10 : (Nat → Int32)) => ∀ z8 : Option Value, znl z8 = true → ∀ z9 : Option Value, znl z9 = true → pm_ev C_X7_place (d + 1) (pm_call M cost zext d) cost (false, false) 108 0 0 Q 77 [some (.ref 61), some (.ref 19), some (.ref 31), some (.ref 58), z8, z9] [] 0 0 (zS p q I [(59, none, o2), (60, none, o3), (61, some 3, fun _ => (I 61 3)), (61, some 4, fun _ => (I 61 4)), (62, none, o1), (63, none, y10), (64, none, (I 64))] J []))) (zwp_bind h) ?_ (fun h => ?_)
  · rintro y10 h z8 hz8 z9 hz9
    refine g_aload_n (pc' := 78)  hc rfl rfl rfl rfl ?_
    refine g_aload_n (pc' := 79)  hc rfl rfl rfl rfl ?_
    refine z_virt (as := [.ref 19]) (a := 61) (r := []) hc rfl rfl rfl rfl sh_61 rfl zco_65 rfl rfl rfl ?_
    refine ok_X7_choose_61_19 (zdp hd rfl) (zwp_mono (zwp_bind h) ?_)
    rintro ⟨o11, o12, o13⟩ h
    refine z_po (pc' := 82) (st' := []) (v := none) (L' := [(59, none, o2), (60, none, o3), (61, some 3, fun _ => o12), (61, some 4, fun _ => o11), (62, none, o1), (63, none, y10), (64, none, o13)]) (K' := []) zco_65 rfl rfl rfl rfl rfl rfl rfl rfl ?_
    replace h := zws h
    exact g_return hc rfl rfl (fun _ => ⟨rfl, rfl⟩) h
  refine zitr_ev (G := (fun (g : Int32 × (Nat → Int32)) => match g with | (x5, x7) => ∀ z6 : Option Value, znl z6 = true → pm_ev C_X7_place (d + 1) (pm_call M cost zext d) cost (false, false) 108 0 0 Q 23 [some (.ref 61), some (.ref 19), some (.ref 31), some (.ref 58), some (.int x5), z6] [] 0 0 (zS p q I [(59, none, o2), (60, none, o3), (61, some 3, fun _ => (I 61 3)), (61, some 4, fun _ => (I 61 4)), (62, none, o1), (63, none, x7), (64, none, (I 64))] J []))) ?_ zFU ((((I 19 3)) - (1 : Int32)), o4) h none rfl
  rintro ⟨x5, x7⟩ h z6 hz6
  refine g_iload (pc' := 25)  hc rfl rfl rfl ?_
  refine g_if_lt (pc' := 28) hc rfl rfl (fun hx => ?_) (fun hx => ?_)
  · replace h := zwp_t h hx
    replace h := zwp_r h
    exact h (some (.int x5)) rfl z6 hz6
  · replace h := zwp_f h hx
    refine g_iconst (pc' := 29) (v := (0 : Int32)) hc rfl zki_0 rfl ?_
    refine g_istore (pc' := 31) (ls1 := [some (.ref 61), some (.ref 19), some (.ref 31), some (.ref 58), some (.int x5), some (.int (0 : Int32))]) hc rfl (zlt rfl) rfl rfl ?_
    refine zjn (G := (fun (y17 : (Nat → Int32)) => ∀ z16 : Option Value, znl z16 = true → pm_ev C_X7_place (d + 1) (pm_call M cost zext d) cost (false, false) 108 0 0 Q 71 [some (.ref 61), some (.ref 19), some (.ref 31), some (.ref 58), some (.int x5), z16] [] 0 0 (zS p q I [(59, none, o2), (60, none, o3), (61, some 3, fun _ => (I 61 3)), (61, some 4, fun _ => (I 61 4)), (62, none, o1), (63, none, y17), (64, none, (I 64))] J []))) (zwp_bind h) ?_ (fun h => ?_)
    · rintro y17 h z16 hz16
      refine g_iinc (pc' := 74) (ls1 := [some (.ref 61), some (.ref 19), some (.ref 31), some (.ref 58), some (.int (x5 + (-1 : Int32))), z16]) hc rfl rfl zki_m1 (zlt rfl) rfl rfl ?_
      refine g_goto hc rfl ?_
      replace h := zwp_l h
      exact h z16 hz16
    refine zitr_ev (G := (fun (g : Int32 × (Nat → Int32)) => match g with | (x14, x15) => pm_ev C_X7_place (d + 1) (pm_call M cost zext d) cost (false, false) 108 0 0 Q 31 [some (.ref 61), some (.ref 19), some (.ref 31), some (.ref 58), some (.int x5), some (.int x14)] [] 0 0 (zS p q I [(59, none, o2), (60, none, o3), (61, some 3, fun _ => (I 61 3)), (61, some 4, fun _ => (I 61 4)), (62, none, o1), (63, none, x15), (64, none, (I 64))] J []))) ?_ zFU ((0 : Int32), x7) h
    rintro ⟨x14, x15⟩ h
    refine g_iload (pc' := 33)  hc rfl rfl rfl ?_
    refine g_iconst (pc' := 34) (v := (1 : Int32)) hc rfl zki_1 rfl ?_
    refine g_aload_n (pc' := 35)  hc rfl rfl rfl rfl ?_
    refine z_getI (pc' := 38) (v := (I 19 7)) hc rfl rfl rfl sh_19 rfl rfl rfl ?_
    refine g_ishl (pc' := 39)  hc rfl rfl ?_
    refine g_icmp_ge (pc' := 42) hc rfl rfl (fun hx => ?_) (fun hx => ?_)
    · replace h := zwp_t h hx
      replace h := zwp_r h
      exact h (some (.int x14)) rfl
    · replace h := zwp_f h hx
      refine g_aload_n (pc' := 43)  hc rfl rfl rfl rfl ?_
      refine z_getR (pc' := 46)  hc rfl rfl rfl sh_61 rfl rfl ?_
      refine g_iload (pc' := 48)  hc rfl rfl rfl ?_
      refine g_sipush (pc' := 51) (v := (256 : Int32)) hc rfl zks_256 rfl ?_
      refine g_imul (pc' := 52)  hc rfl rfl ?_
      refine g_iload (pc' := 54)  hc rfl rfl rfl ?_
      refine g_iadd (pc' := 55)  hc rfl rfl ?_
      refine g_aload_n (pc' := 56)  hc rfl rfl rfl rfl ?_
      refine g_aload_n (pc' := 57)  hc rfl rfl rfl rfl ?_
      refine g_iload (pc' := 59)  hc rfl rfl rfl ?_
      refine g_iload (pc' := 61)  hc rfl rfl rfl ?_
      refine z_virt (as := [.ref 19, .int x5, .int x14]) (a := 61) (r := [.int ((x5 * (256 : Int32)) + x14), .ref 63]) hc rfl rfl rfl rfl sh_61 rfl zco_63 rfl rfl rfl ?_
      refine ok_X7_bestFrom_61_19 (zdp hd rfl) (zwp_mono (zwp_bind h) ?_)
      rintro r18 h
      refine z_po (pc' := 64) (st' := [.int r18, .int ((x5 * (256 : Int32)) + x14), .ref 63]) (v := (some (.int r18))) (L' := [(59, none, o2), (60, none, o3), (61, some 3, fun _ => (I 61 3)), (61, some 4, fun _ => (I 61 4)), (62, none, o1), (63, none, x15), (64, none, (I 64))]) (K' := []) zco_63 rfl rfl rfl rfl rfl rfl rfl rfl ?_
      have hb := (zwp_bnd h).1
      replace h := (zwp_bnd h).2
      refine z_iastore (pc' := 65) (g := x15) (L' := [(59, none, o2), (60, none, o3), (61, some 3, fun _ => (I 61 3)), (61, some 4, fun _ => (I 61 4)), (62, none, o1), (63, none, (upd x15 ((x5 * (256 : Int32)) + x14).toNatClampNeg r18)), (64, none, (I 64))]) hc rfl rfl sh_63 hb rfl rfl rfl rfl ?_
      refine g_iinc (pc' := 68) (ls1 := [some (.ref 61), some (.ref 19), some (.ref 31), some (.ref 58), some (.int x5), some (.int (x14 + (1 : Int32)))]) hc rfl rfl zki_1 (zlt rfl) rfl rfl ?_
      refine g_goto hc rfl ?_
      replace h := zwp_l h
      exact h
set_option maxRecDepth 4000 in
theorem ok_X11_seats_0_q {I : pI} {J : pJ} {a1 : Int32} {Q : pQ} {d : Nat} (hd : 8 ≤ d) (h : zwp (f_X11_seats a1 (I 32) (J 31 2) (I 19 3) (I 19 1) (I 23) (I 19 7) (I 19 0) (I 63) (I 61 4) (I 62) (I 61 3) (I 64) (I 59) (I 60)) (fun w => match w with | (.inl r, o0, o1, o2, o3, o4, o5, o6) => Q (.inl (some (.int r))) (zS 19 7 I [(59, none, o5), (60, none, o6), (61, some 3, fun _ => o3), (61, some 4, fun _ => o1), (62, none, o2), (63, none, o0), (64, none, o4)] J []) | (.inr E, o0, o1, o2, o3, o4, o5, o6) => Q (.inr E) (zS 19 7 I [(59, none, o5), (60, none, o6), (61, some 3, fun _ => o3), (61, some 4, fun _ => o1), (62, none, o2), (63, none, o0), (64, none, o4)] J []))) : pm_call M cost zext d 118 [.ref 0, .int a1] (pm_st 108 (shp 19 7) I J) Q := by
  obtain ⟨d, rfl⟩ := zd1 hd rfl
  have hc := pm_call_m (M := M) (cost := cost) zext_m d
  refine z_in (L := [(59, none, (I 59)), (60, none, (I 60)), (61, some 3, fun _ => (I 61 3)), (61, some 4, fun _ => (I 61 4)), (62, none, (I 62)), (63, none, (I 63)), (64, none, (I 64))]) (K := []) (ls := [some (.ref 0), some (.int a1)]) zmt_118 zco_118 rfl rfl (zid_a (zid_a (zid_s (zid_s (zid_a (zid_a (zid_a zid_n))))))) zid_n ?_
  delta f_X11_seats at h
  refine g_iload_n (pc' := 1)  hc rfl rfl rfl ?_
  refine g_iconst (pc' := 2) (v := (1 : Int32)) hc rfl zki_1 rfl ?_
  refine z_stat (as := [.int a1, .int (1 : Int32)]) (r := []) hc rfl rfl rfl rfl zco_135 rfl rfl rfl ?_
  refine ok_X11_checkWhat (zdp hd rfl) (zwp_mono (zwp_bind h) ?_)
  rintro (⟨⟩ | E1) h
  · refine z_po (pc' := 5) (st' := []) (v := none) (L' := [(59, none, (I 59)), (60, none, (I 60)), (61, some 3, fun _ => (I 61 3)), (61, some 4, fun _ => (I 61 4)), (62, none, (I 62)), (63, none, (I 63)), (64, none, (I 64))]) (K' := []) zco_135 rfl rfl rfl rfl rfl rfl rfl rfl ?_
    refine g_aload_n (pc' := 6)  hc rfl rfl rfl rfl ?_
    refine z_getR (pc' := 9)  hc rfl rfl rfl sh_0 rfl rfl ?_
    refine g_aload_n (pc' := 10)  hc rfl rfl rfl rfl ?_
    refine z_getR (pc' := 13)  hc rfl rfl rfl sh_0 rfl rfl ?_
    refine g_aload_n (pc' := 14)  hc rfl rfl rfl rfl ?_
    refine z_getR (pc' := 17)  hc rfl rfl rfl sh_0 rfl rfl ?_
    refine g_aload_n (pc' := 18)  hc rfl rfl rfl rfl ?_
    refine z_getR (pc' := 21)  hc rfl rfl rfl sh_0 rfl rfl ?_
    refine z_virt (as := [.ref 19, .ref 31, .ref 58]) (a := 61) (r := []) hc rfl rfl rfl rfl sh_61 rfl zco_61 rfl rfl rfl ?_
    refine ok_X7_place_61_19_31_58 (zdp hd rfl) (zwp_mono (zwp_bind h) ?_)
    rintro ⟨o2, o3, o4, o5, o6, o7, o8⟩ h
    refine z_po (pc' := 24) (st' := []) (v := none) (L' := [(59, none, o7), (60, none, o8), (61, some 3, fun _ => o5), (61, some 4, fun _ => o3), (62, none, o4), (63, none, o2), (64, none, o6)]) (K' := []) zco_61 rfl rfl rfl rfl rfl rfl rfl rfl ?_
    refine g_iload_n (pc' := 25)  hc rfl rfl rfl ?_
    refine g_if_ne (pc' := 28) hc rfl rfl (fun hx => ?_) (fun hx => ?_)
    · replace h := zwp_f h hx
      refine g_aload_n (pc' := 39)  hc rfl rfl rfl rfl ?_
      refine z_getR (pc' := 42)  hc rfl rfl rfl sh_0 rfl rfl ?_
      refine z_getI (pc' := 45) (v := o3) hc rfl rfl rfl sh_61 rfl rfl rfl ?_
      replace h := zws h
      exact g_ireturn hc rfl rfl rfl (fun _ => ⟨rfl, rfl⟩) h
    · replace h := zwp_t h hx
      refine g_aload_n (pc' := 29)  hc rfl rfl rfl rfl ?_
      refine z_getR (pc' := 32)  hc rfl rfl rfl sh_0 rfl rfl ?_
      refine z_getI (pc' := 35) (v := o5) hc rfl rfl rfl sh_61 rfl rfl rfl ?_
      refine g_goto hc rfl ?_
      replace h := zws h
      exact g_ireturn hc rfl rfl rfl (fun _ => ⟨rfl, rfl⟩) h
  · replace h := zws h
    exact z_pox (L' := [(59, none, (I 59)), (60, none, (I 60)), (61, some 3, fun _ => (I 61 3)), (61, some 4, fun _ => (I 61 4)), (62, none, (I 62)), (63, none, (I 63)), (64, none, (I 64))]) (K' := []) rfl rfl rfl rfl rfl rfl rfl h
