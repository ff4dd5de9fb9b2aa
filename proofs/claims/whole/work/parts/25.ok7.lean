set_option maxRecDepth 4000 in
theorem ok_L_seats_0_107_q {I : pI} {J : pJ} {a1 : Int32} {Q : pQ} {d : Nat} (hd : 9 ≤ d) (h : zwp (f_L_seats a1 1 (J 107) (I 32) (J 31 2) (I 19 3) (I 19 1) (I 23) (I 19 7) (I 19 0) (I 63) (I 61 4) (I 62) (I 61 3) (I 64) (I 59) (I 60)) (fun w => match w with | (r, o0, o1, o2, o3, o4, o5, o6, o7) => Q (.inl (some (.int r))) (zS 19 7 I [(59, none, o6), (60, none, o7), (61, some 3, fun _ => o4), (61, some 4, fun _ => o2), (62, none, o3), (63, none, o1), (64, none, o5)] J [(107, none, o0)]))) : pm_call M cost zext d 288 [.ref 0, .int a1, .ref 107] (pm_st 108 (shp 19 7) I J) Q := by
  obtain ⟨d, rfl⟩ := zd1 hd rfl
  have hc := pm_call_m (M := M) (cost := cost) zext_m d
  refine z_in (L := [(59, none, (I 59)), (60, none, (I 60)), (61, some 3, fun _ => (I 61 3)), (61, some 4, fun _ => (I 61 4)), (62, none, (I 62)), (63, none, (I 63)), (64, none, (I 64))]) (K := [(107, none, (J 107))]) (ls := [some (.ref 0), some (.int a1), some (.ref 107), none]) zmt_288 zco_288 rfl rfl (zid_a (zid_a (zid_s (zid_s (zid_a (zid_a (zid_a zid_n))))))) (zid_a zid_n) ?_
  delta f_L_seats at h
  refine g_aload_n (pc' := 1)  hc rfl rfl rfl rfl ?_
  refine g_iconst (pc' := 2) (v := (0 : Int32)) hc rfl zki_0 rfl ?_
  refine g_aload_n (pc' := 3)  hc rfl rfl rfl rfl ?_
  refine g_iload_n (pc' := 4)  hc rfl rfl rfl ?_
  refine z_virt (as := [.int a1]) (a := 0) (r := [.int (0 : Int32), .ref 107]) hc rfl rfl rfl rfl sh_0 rfl zco_118 rfl rfl rfl ?_
  refine ok_X11_seats_0_q (zdp hd rfl) (zwp_mono (zwp_bind h) ?_)
  rintro ⟨(r8 | E9), o1, o2, o3, o4, o5, o6, o7⟩ h
  · refine z_po (pc' := 7) (st' := [.int r8, .int (0 : Int32), .ref 107]) (v := (some (.int r8))) (L' := [(59, none, o6), (60, none, o7), (61, some 3, fun _ => o4), (61, some 4, fun _ => o2), (62, none, o3), (63, none, o1), (64, none, o5)]) (K' := [(107, none, (J 107))]) zco_118 rfl rfl rfl rfl rfl rfl rfl rfl ?_
    refine g_i2l (pc' := 8)  hc rfl rfl ?_
    have hb := (zwp_bnd h).1
    replace h := (zwp_bnd h).2
    refine z_lastore (pc' := 9) (g := (J 107)) (K' := [(107, none, (vp_updL ((J 107)) (0 : Int32).toNatClampNeg r8.toInt64))]) hc rfl rfl sh_107 hb rfl rfl rfl rfl ?_
    refine g_goto hc rfl ?_
    refine g_iconst (pc' := 16) (v := (0 : Int32)) hc rfl zki_0 rfl ?_
    replace h := zws h
    exact g_ireturn hc rfl rfl rfl (fun _ => ⟨rfl, rfl⟩) h
  · by_cases hE : E9 = x_N
    · replace h := zwp_t h hE
      replace h := zws h
      exact z_poh (L' := [(59, none, o6), (60, none, o7), (61, some 3, fun _ => o4), (61, some 4, fun _ => o2), (62, none, o3), (63, none, o1), (64, none, o5)]) (K' := [(107, none, (J 107))]) (zhd1 (e := 9) (pc := 4) rfl hE) rfl rfl rfl rfl rfl rfl rfl rfl h
    replace h := zwp_f h hE
    exact (zwn h).elim
set_option maxRecDepth 4000 in
theorem ok_X11_seat_0_q {I : pI} {J : pJ} {a1 : Int32} {Q : pQ} {d : Nat} (hd : 8 ≤ d) (h : zwp (f_X11_seat a1 (I 32) (J 31 2) (I 19 3) (I 19 1) (I 23) (I 19 7) (I 19 0) (I 63) (I 61 4) (I 62) (I 61 3) (I 64) (I 59) (I 60)) (fun w => match w with | (.inl r, o0, o1, o2, o3, o4, o5, o6) => Q (.inl (some (.int r))) (zS 19 7 I [(59, none, o5), (60, none, o6), (61, some 3, fun _ => o3), (61, some 4, fun _ => o1), (62, none, o2), (63, none, o0), (64, none, o4)] J []) | (.inr E, o0, o1, o2, o3, o4, o5, o6) => Q (.inr E) (zS 19 7 I [(59, none, o5), (60, none, o6), (61, some 3, fun _ => o3), (61, some 4, fun _ => o1), (62, none, o2), (63, none, o0), (64, none, o4)] J []))) : pm_call M cost zext d 119 [.ref 0, .int a1] (pm_st 108 (shp 19 7) I J) Q := by
  obtain ⟨d, rfl⟩ := zd1 hd rfl
  have hc := pm_call_m (M := M) (cost := cost) zext_m d
  refine z_in (L := [(59, none, (I 59)), (60, none, (I 60)), (61, some 3, fun _ => (I 61 3)), (61, some 4, fun _ => (I 61 4)), (62, none, (I 62)), (63, none, (I 63)), (64, none, (I 64))]) (K := []) (ls := [some (.ref 0), some (.int a1)]) zmt_119 zco_119 rfl rfl (zid_a (zid_a (zid_s (zid_s (zid_a (zid_a (zid_a zid_n))))))) zid_n ?_
  delta f_X11_seat at h
  refine g_aload_n (pc' := 1)  hc rfl rfl rfl rfl ?_
  refine g_iload_n (pc' := 2)  hc rfl rfl rfl ?_
  refine z_virt (as := [.int a1]) (a := 0) (r := []) hc rfl rfl rfl rfl sh_0 rfl zco_133 rfl rfl rfl ?_
  refine ok_X11_checkFigure_0_q (zdp hd rfl) (zwp_mono (zwp_bind h) ?_)
  rintro (⟨⟩ | E1) h
  · refine z_po (pc' := 5) (st' := []) (v := none) (L' := [(59, none, (I 59)), (60, none, (I 60)), (61, some 3, fun _ => (I 61 3)), (61, some 4, fun _ => (I 61 4)), (62, none, (I 62)), (63, none, (I 63)), (64, none, (I 64))]) (K' := []) zco_133 rfl rfl rfl rfl rfl rfl rfl rfl ?_
    refine g_aload_n (pc' := 6)  hc rfl rfl rfl rfl ?_
    refine z_getR (pc' := 9)  hc rfl rfl rfl sh_0 rfl rfl ?_
    refine g_aload_n (pc' := 10)  hc rfl rfl rfl rfl ?_
    refine z_getR (pc' := 13)  hc rfl rfl rfl sh_0 rfl rfl ?_
    refine g_aload_n (pc' := 14)  hc rfl rfl rfl rfl ?_
    refine z_getR (pc' := 17)  hc rfl rfl rfl sh_0 rfl rfl ?_
    refine g_aload_n (pc' := 18)  hc rfl rfl rfl rfl ?_
    refine z_getR (pc' := 21)  hc rfl rfl rfl sh_0 rfl rfl ?_
    refine z_virt (as := [.ref 19, .ref 31, .ref 58]) (a := 61) (r := []) hc rfl rfl rfl rfl sh_61 rfl zco_61 rfl rfl rfl ?_
    refine ok_X7_place_61_19_31_58 (zdp hd rfl) (zwp_mono (zwp_bind h) ?_)
    rintro ⟨o2, o3, o4, o5, o6, o7, o8⟩ h
    refine z_po (pc' := 24) (st' := []) (v := none) (L' := [(59, none, o7), (60, none, o8), (61, some 3, fun _ => o5), (61, some 4, fun _ => o3), (62, none, o4), (63, none, o2), (64, none, o6)]) (K' := []) zco_61 rfl rfl rfl rfl rfl rfl rfl rfl ?_
    refine g_aload_n (pc' := 25)  hc rfl rfl rfl rfl ?_
    refine z_getR (pc' := 28)  hc rfl rfl rfl sh_0 rfl rfl ?_
    refine z_getR (pc' := 31)  hc rfl rfl rfl sh_61 rfl rfl ?_
    refine g_iload_n (pc' := 32)  hc rfl rfl rfl ?_
    have hb := (zwp_bnd h).1
    replace h := (zwp_bnd h).2
    refine z_iaload (pc' := 33) (v := (o6 a1.toNatClampNeg)) hc rfl rfl sh_64 hb rfl rfl ?_
    replace h := zws h
    exact g_ireturn hc rfl rfl rfl (fun _ => ⟨rfl, rfl⟩) h
  · replace h := zws h
    exact z_pox (L' := [(59, none, (I 59)), (60, none, (I 60)), (61, some 3, fun _ => (I 61 3)), (61, some 4, fun _ => (I 61 4)), (62, none, (I 62)), (63, none, (I 63)), (64, none, (I 64))]) (K' := []) rfl rfl rfl rfl rfl rfl rfl h
set_option maxRecDepth 4000 in
theorem ok_L_seat_0_107_q {I : pI} {J : pJ} {a1 : Int32} {Q : pQ} {d : Nat} (hd : 9 ≤ d) (h : zwp (f_L_seat a1 1 (J 107) (I 32) (J 31 2) (I 19 3) (I 19 1) (I 23) (I 19 7) (I 19 0) (I 63) (I 61 4) (I 62) (I 61 3) (I 64) (I 59) (I 60)) (fun w => match w with | (r, o0, o1, o2, o3, o4, o5, o6, o7) => Q (.inl (some (.int r))) (zS 19 7 I [(59, none, o6), (60, none, o7), (61, some 3, fun _ => o4), (61, some 4, fun _ => o2), (62, none, o3), (63, none, o1), (64, none, o5)] J [(107, none, o0)]))) : pm_call M cost zext d 289 [.ref 0, .int a1, .ref 107] (pm_st 108 (shp 19 7) I J) Q := by
  obtain ⟨d, rfl⟩ := zd1 hd rfl
  have hc := pm_call_m (M := M) (cost := cost) zext_m d
  refine z_in (L := [(59, none, (I 59)), (60, none, (I 60)), (61, some 3, fun _ => (I 61 3)), (61, some 4, fun _ => (I 61 4)), (62, none, (I 62)), (63, none, (I 63)), (64, none, (I 64))]) (K := [(107, none, (J 107))]) (ls := [some (.ref 0), some (.int a1), some (.ref 107), none]) zmt_289 zco_289 rfl rfl (zid_a (zid_a (zid_s (zid_s (zid_a (zid_a (zid_a zid_n))))))) (zid_a zid_n) ?_
  delta f_L_seat at h
  refine g_aload_n (pc' := 1)  hc rfl rfl rfl rfl ?_
  refine g_iconst (pc' := 2) (v := (0 : Int32)) hc rfl zki_0 rfl ?_
  refine g_aload_n (pc' := 3)  hc rfl rfl rfl rfl ?_
  refine g_iload_n (pc' := 4)  hc rfl rfl rfl ?_
  refine z_virt (as := [.int a1]) (a := 0) (r := [.int (0 : Int32), .ref 107]) hc rfl rfl rfl rfl sh_0 rfl zco_119 rfl rfl rfl ?_
  refine ok_X11_seat_0_q (zdp hd rfl) (zwp_mono (zwp_bind h) ?_)
  rintro ⟨(r8 | E9), o1, o2, o3, o4, o5, o6, o7⟩ h
  · refine z_po (pc' := 7) (st' := [.int r8, .int (0 : Int32), .ref 107]) (v := (some (.int r8))) (L' := [(59, none, o6), (60, none, o7), (61, some 3, fun _ => o4), (61, some 4, fun _ => o2), (62, none, o3), (63, none, o1), (64, none, o5)]) (K' := [(107, none, (J 107))]) zco_119 rfl rfl rfl rfl rfl rfl rfl rfl ?_
    refine g_i2l (pc' := 8)  hc rfl rfl ?_
    have hb := (zwp_bnd h).1
    replace h := (zwp_bnd h).2
    refine z_lastore (pc' := 9) (g := (J 107)) (K' := [(107, none, (vp_updL ((J 107)) (0 : Int32).toNatClampNeg r8.toInt64))]) hc rfl rfl sh_107 hb rfl rfl rfl rfl ?_
    refine g_goto hc rfl ?_
    refine g_iconst (pc' := 16) (v := (0 : Int32)) hc rfl zki_0 rfl ?_
    replace h := zws h
    exact g_ireturn hc rfl rfl rfl (fun _ => ⟨rfl, rfl⟩) h
  · by_cases hE : E9 = x_N
    · replace h := zwp_t h hE
      replace h := zws h
      exact z_poh (L' := [(59, none, o6), (60, none, o7), (61, some 3, fun _ => o4), (61, some 4, fun _ => o2), (62, none, o3), (63, none, o1), (64, none, o5)]) (K' := [(107, none, (J 107))]) (zhd1 (e := 9) (pc := 4) rfl hE) rfl rfl rfl rfl rfl rfl rfl rfl h
    replace h := zwp_f h hE
    exact (zwn h).elim
set_option maxRecDepth 4000 in
theorem ok_X11_note_0_q {I : pI} {J : pJ} {a1 : Int32} {a2 : Int32} {a3 : Int32} {Q : pQ} {d : Nat} (hd : 8 ≤ d) (h : zwp (f_X11_note a1 a2 a3 (I 39) (I 38) (I 40) (I 36 3) (I 19 3) (I 19 1) (I 19 0) (I 6)) (fun w => match w with | (.inl r, o0, o1, o2, o3, o4) => Q (.inl (some (.int r))) (zS 19 7 I [(6, none, o4), (36, some 3, fun _ => o3), (38, none, o1), (39, none, o0), (40, none, o2)] J []) | (.inr E, o0, o1, o2, o3, o4) => Q (.inr E) (zS 19 7 I [(6, none, o4), (36, some 3, fun _ => o3), (38, none, o1), (39, none, o0), (40, none, o2)] J []))) : pm_call M cost zext d 120 [.ref 0, .int a1, .int a2, .int a3] (pm_st 108 (shp 19 7) I J) Q := by
  obtain ⟨d, rfl⟩ := zd1 hd rfl
  have hc := pm_call_m (M := M) (cost := cost) zext_m d
  refine z_in (L := [(6, none, (I 6)), (36, some 3, fun _ => (I 36 3)), (38, none, (I 38)), (39, none, (I 39)), (40, none, (I 40))]) (K := []) (ls := [some (.ref 0), some (.int a1), some (.int a2), some (.int a3)]) zmt_120 zco_120 rfl rfl (zid_a (zid_s (zid_a (zid_a (zid_a zid_n))))) zid_n ?_
  delta f_X11_note at h
  refine g_aload_n (pc' := 1)  hc rfl rfl rfl rfl ?_
  refine g_iload_n (pc' := 2)  hc rfl rfl rfl ?_
  refine z_virt (as := [.int a1]) (a := 0) (r := []) hc rfl rfl rfl rfl sh_0 rfl zco_133 rfl rfl rfl ?_
  refine ok_X11_checkFigure_0_q (zdp hd rfl) (zwp_mono (zwp_bind h) ?_)
  rintro (⟨⟩ | E1) h
  · refine z_po (pc' := 5) (st' := []) (v := none) (L' := [(6, none, (I 6)), (36, some 3, fun _ => (I 36 3)), (38, none, (I 38)), (39, none, (I 39)), (40, none, (I 40))]) (K' := []) zco_133 rfl rfl rfl rfl rfl rfl rfl rfl ?_
    refine g_aload_n (pc' := 6)  hc rfl rfl rfl rfl ?_
    refine g_iload_n (pc' := 7)  hc rfl rfl rfl ?_
    refine z_virt (as := [.int a2]) (a := 0) (r := []) hc rfl rfl rfl rfl sh_0 rfl zco_134 rfl rfl rfl ?_
    refine ok_X11_checkCell_0_q (zdp hd rfl) (zwp_mono (zwp_bind h) ?_)
    rintro (⟨⟩ | E2) h
    · refine z_po (pc' := 10) (st' := []) (v := none) (L' := [(6, none, (I 6)), (36, some 3, fun _ => (I 36 3)), (38, none, (I 38)), (39, none, (I 39)), (40, none, (I 40))]) (K' := []) zco_134 rfl rfl rfl rfl rfl rfl rfl rfl ?_
      refine g_aload_n (pc' := 11)  hc rfl rfl rfl rfl ?_
      refine z_getR (pc' := 14)  hc rfl rfl rfl sh_0 rfl rfl ?_
      refine z_getI (pc' := 17) (v := (I 36 3)) hc rfl rfl rfl sh_36 rfl rfl rfl ?_
      refine g_bipush (pc' := 19) (v := (8 : Int32)) hc rfl zkb_8 rfl ?_
      refine g_icmp_ge (pc' := 22) hc rfl rfl (fun hx => ?_) (fun hx => ?_)
      · replace h := zwp_t h hx
        refine g_aload_n (pc' := 33)  hc rfl rfl rfl rfl ?_
        refine z_getR (pc' := 36)  hc rfl rfl rfl sh_0 rfl rfl ?_
        refine g_iconst (pc' := 37) (v := (2 : Int32)) hc rfl zki_2 rfl ?_
        refine g_dup2 (pc' := 38)  hc rfl rfl rfl rfl ?_
        refine z_iaload (pc' := 39) (v := (((I 6)) 2)) hc rfl rfl sh_6 (by decide) rfl rfl ?_
        refine g_iconst (pc' := 40) (v := (1 : Int32)) hc rfl zki_1 rfl ?_
        refine g_iadd (pc' := 41)  hc rfl rfl ?_
        refine z_iastore (pc' := 42) (g := (I 6)) (L' := [(6, none, (upd ((I 6)) 2 ((((I 6)) 2) + (1 : Int32)))), (36, some 3, fun _ => (I 36 3)), (38, none, (I 38)), (39, none, (I 39)), (40, none, (I 40))]) hc rfl rfl sh_6 (by decide) rfl rfl rfl rfl ?_
        refine g_iconst (pc' := 43) (v := (-1 : Int32)) hc rfl zki_m1 rfl ?_
        replace h := zws h
        exact g_ireturn hc rfl rfl rfl (fun _ => ⟨rfl, rfl⟩) h
      · replace h := zwp_f h hx
        refine g_iload_n (pc' := 23)  hc rfl rfl rfl ?_
        refine g_if_lt (pc' := 26) hc rfl rfl (fun hx => ?_) (fun hx => ?_)
        · replace h := zwp_t h hx
          refine g_aload_n (pc' := 33)  hc rfl rfl rfl rfl ?_
          refine z_getR (pc' := 36)  hc rfl rfl rfl sh_0 rfl rfl ?_
          refine g_iconst (pc' := 37) (v := (2 : Int32)) hc rfl zki_2 rfl ?_
          refine g_dup2 (pc' := 38)  hc rfl rfl rfl rfl ?_
          refine z_iaload (pc' := 39) (v := (((I 6)) 2)) hc rfl rfl sh_6 (by decide) rfl rfl ?_
          refine g_iconst (pc' := 40) (v := (1 : Int32)) hc rfl zki_1 rfl ?_
          refine g_iadd (pc' := 41)  hc rfl rfl ?_
          refine z_iastore (pc' := 42) (g := (I 6)) (L' := [(6, none, (upd ((I 6)) 2 ((((I 6)) 2) + (1 : Int32)))), (36, some 3, fun _ => (I 36 3)), (38, none, (I 38)), (39, none, (I 39)), (40, none, (I 40))]) hc rfl rfl sh_6 (by decide) rfl rfl rfl rfl ?_
          refine g_iconst (pc' := 43) (v := (-1 : Int32)) hc rfl zki_m1 rfl ?_
          replace h := zws h
          exact g_ireturn hc rfl rfl rfl (fun _ => ⟨rfl, rfl⟩) h
        · replace h := zwp_f h hx
          refine g_iload_n (pc' := 27)  hc rfl rfl rfl ?_
          refine g_bipush (pc' := 29) (v := (20 : Int32)) hc rfl zkb_20 rfl ?_
          refine g_icmp_le (pc' := 32) hc rfl rfl (fun hx => ?_) (fun hx => ?_)
          · replace h := zwp_t h hx
            refine g_aload_n (pc' := 45)  hc rfl rfl rfl rfl ?_
            refine z_getR (pc' := 48)  hc rfl rfl rfl sh_0 rfl rfl ?_
            refine g_iload_n (pc' := 49)  hc rfl rfl rfl ?_
            refine g_iload_n (pc' := 50)  hc rfl rfl rfl ?_
            refine g_iload_n (pc' := 51)  hc rfl rfl rfl ?_
            refine z_virt (as := [.int a1, .int a2, .int a3]) (a := 36) (r := []) hc rfl rfl rfl rfl sh_36 rfl zco_5 rfl rfl rfl ?_
            refine ok_X0_add_36 (zdp hd rfl) (zwp_mono (zwp_bind h) ?_)
            rintro ⟨o3, o4, o5, o6⟩ h
            refine z_po (pc' := 54) (st' := []) (v := none) (L' := [(6, none, (I 6)), (36, some 3, fun _ => o6), (38, none, o4), (39, none, o3), (40, none, o5)]) (K' := []) zco_5 rfl rfl rfl rfl rfl rfl rfl rfl ?_
            refine g_aload_n (pc' := 55)  hc rfl rfl rfl rfl ?_
            refine z_getR (pc' := 58)  hc rfl rfl rfl sh_0 rfl rfl ?_
            refine z_getI (pc' := 61) (v := o6) hc rfl rfl rfl sh_36 rfl rfl rfl ?_
            replace h := zws h
            exact g_ireturn hc rfl rfl rfl (fun _ => ⟨rfl, rfl⟩) h
          · replace h := zwp_f h hx
            refine g_aload_n (pc' := 33)  hc rfl rfl rfl rfl ?_
            refine z_getR (pc' := 36)  hc rfl rfl rfl sh_0 rfl rfl ?_
            refine g_iconst (pc' := 37) (v := (2 : Int32)) hc rfl zki_2 rfl ?_
            refine g_dup2 (pc' := 38)  hc rfl rfl rfl rfl ?_
            refine z_iaload (pc' := 39) (v := (((I 6)) 2)) hc rfl rfl sh_6 (by decide) rfl rfl ?_
            refine g_iconst (pc' := 40) (v := (1 : Int32)) hc rfl zki_1 rfl ?_
            refine g_iadd (pc' := 41)  hc rfl rfl ?_
            refine z_iastore (pc' := 42) (g := (I 6)) (L' := [(6, none, (upd ((I 6)) 2 ((((I 6)) 2) + (1 : Int32)))), (36, some 3, fun _ => (I 36 3)), (38, none, (I 38)), (39, none, (I 39)), (40, none, (I 40))]) hc rfl rfl sh_6 (by decide) rfl rfl rfl rfl ?_
            refine g_iconst (pc' := 43) (v := (-1 : Int32)) hc rfl zki_m1 rfl ?_
            replace h := zws h
            exact g_ireturn hc rfl rfl rfl (fun _ => ⟨rfl, rfl⟩) h
    · replace h := zws h
      exact z_pox (L' := [(6, none, (I 6)), (36, some 3, fun _ => (I 36 3)), (38, none, (I 38)), (39, none, (I 39)), (40, none, (I 40))]) (K' := []) rfl rfl rfl rfl rfl rfl rfl h
  · replace h := zws h
    exact z_pox (L' := [(6, none, (I 6)), (36, some 3, fun _ => (I 36 3)), (38, none, (I 38)), (39, none, (I 39)), (40, none, (I 40))]) (K' := []) rfl rfl rfl rfl rfl rfl rfl h
set_option maxRecDepth 4000 in
theorem ok_L_note_0_107_q {I : pI} {J : pJ} {a1 : Int32} {a2 : Int32} {a3 : Int32} {Q : pQ} {d : Nat} (hd : 9 ≤ d) (h : zwp (f_L_note a1 a2 a3 1 (J 107) (I 39) (I 38) (I 40) (I 36 3) (I 19 3) (I 19 1) (I 19 0) (I 6)) (fun w => match w with | (r, o0, o1, o2, o3, o4, o5) => Q (.inl (some (.int r))) (zS 19 7 I [(6, none, o5), (36, some 3, fun _ => o4), (38, none, o2), (39, none, o1), (40, none, o3)] J [(107, none, o0)]))) : pm_call M cost zext d 290 [.ref 0, .int a1, .int a2, .int a3, .ref 107] (pm_st 108 (shp 19 7) I J) Q := by
  obtain ⟨d, rfl⟩ := zd1 hd rfl
  have hc := pm_call_m (M := M) (cost := cost) zext_m d
  refine z_in (L := [(6, none, (I 6)), (36, some 3, fun _ => (I 36 3)), (38, none, (I 38)), (39, none, (I 39)), (40, none, (I 40))]) (K := [(107, none, (J 107))]) (ls := [some (.ref 0), some (.int a1), some (.int a2), some (.int a3), some (.ref 107), none]) zmt_290 zco_290 rfl rfl (zid_a (zid_s (zid_a (zid_a (zid_a zid_n))))) (zid_a zid_n) ?_
  delta f_L_note at h
  refine g_aload (pc' := 2)  hc rfl rfl rfl rfl ?_
  refine g_iconst (pc' := 3) (v := (0 : Int32)) hc rfl zki_0 rfl ?_
  refine g_aload_n (pc' := 4)  hc rfl rfl rfl rfl ?_
  refine g_iload_n (pc' := 5)  hc rfl rfl rfl ?_
  refine g_iload_n (pc' := 6)  hc rfl rfl rfl ?_
  refine g_iload_n (pc' := 7)  hc rfl rfl rfl ?_
  refine z_virt (as := [.int a1, .int a2, .int a3]) (a := 0) (r := [.int (0 : Int32), .ref 107]) hc rfl rfl rfl rfl sh_0 rfl zco_120 rfl rfl rfl ?_
  refine ok_X11_note_0_q (zdp hd rfl) (zwp_mono (zwp_bind h) ?_)
  rintro ⟨(r6 | E7), o1, o2, o3, o4, o5⟩ h
  · refine z_po (pc' := 10) (st' := [.int r6, .int (0 : Int32), .ref 107]) (v := (some (.int r6))) (L' := [(6, none, o5), (36, some 3, fun _ => o4), (38, none, o2), (39, none, o1), (40, none, o3)]) (K' := [(107, none, (J 107))]) zco_120 rfl rfl rfl rfl rfl rfl rfl rfl ?_
    refine g_i2l (pc' := 11)  hc rfl rfl ?_
    have hb := (zwp_bnd h).1
    replace h := (zwp_bnd h).2
    refine z_lastore (pc' := 12) (g := (J 107)) (K' := [(107, none, (vp_updL ((J 107)) (0 : Int32).toNatClampNeg r6.toInt64))]) hc rfl rfl sh_107 hb rfl rfl rfl rfl ?_
    refine g_goto hc rfl ?_
    refine g_iconst (pc' := 20) (v := (0 : Int32)) hc rfl zki_0 rfl ?_
    replace h := zws h
    exact g_ireturn hc rfl rfl rfl (fun _ => ⟨rfl, rfl⟩) h
  · by_cases hE : E7 = x_N
    · replace h := zwp_t h hE
      replace h := zws h
      exact z_poh (L' := [(6, none, o5), (36, some 3, fun _ => o4), (38, none, o2), (39, none, o1), (40, none, o3)]) (K' := [(107, none, (J 107))]) (zhd1 (e := 12) (pc := 7) rfl hE) rfl rfl rfl rfl rfl rfl rfl rfl h
    replace h := zwp_f h hE
    exact (zwn h).elim
set_option maxRecDepth 4000 in
theorem ok_X1_holdsAll_65_19_53_36_51 {p q : Nat} {I : pI} {J : pJ} {Q : pQ} {d : Nat} (hd : 5 ≤ d) (h : zwp (f_X1_holdsAll (I 39) (I 38) (I 40) (I 36 3) (I 52) (I 19 12) (I 19 3) (I 27) (I 25 2) (I 26) (I 19 1) (I 30) (I 28 2) (I 29) (I 24) (I 19 9) (I 21) (I 22) (I 19 0) (I 54) (I 53 3) (I 56) (I 53 0) (I 57) (I 55) (J 53 2)) (fun w => match w with | (r, o0, o1, o2, o3, o4, o5, o6) => Q (.inl (some (.int r))) (zS p q I [(26, none, o1), (29, none, o2), (52, none, o0), (53, some 0, fun _ => o5), (54, none, o3), (55, none, o6), (56, none, o4)] J []))) : pm_call M cost zext d 10 [.ref 65, .ref 19, .ref 53, .ref 36, .ref 51] (pm_st 108 (shp p q) I J) Q := by
  obtain ⟨d, rfl⟩ := zd1 hd rfl
  have hc := pm_call_m (M := M) (cost := cost) zext_m d
  refine z_in (L := [(26, none, (I 26)), (29, none, (I 29)), (52, none, (I 52)), (53, some 0, fun _ => (I 53 0)), (54, none, (I 54)), (55, none, (I 55)), (56, none, (I 56))]) (K := []) (ls := [some (.ref 65), some (.ref 19), some (.ref 53), some (.ref 36), some (.ref 51), none]) zmt_10 zco_10 rfl rfl (zid_a (zid_a (zid_a (zid_s (zid_a (zid_a (zid_a zid_n))))))) zid_n ?_
  delta f_X1_holdsAll at h
  refine g_iconst (pc' := 1) (v := (0 : Int32)) hc rfl zki_0 rfl ?_
  refine g_istore (pc' := 3) (ls1 := [some (.ref 65), some (.ref 19), some (.ref 53), some (.ref 36), some (.ref 51), some (.int (0 : Int32))]) hc rfl (zlt rfl) rfl rfl ?_
  refine zjs (G := (fun (g : (Nat → Int32) × (Nat → Int32) × (Nat → Int32) × (Nat → Int32) × (Nat → Int32) × Int32 × (Nat → Int32)) => match g with | (y10, y11, y12, y13, y14, y15, y16) => ∀ z9 : Option Value, znl z9 = true → pm_ev C_X1_holdsAll (d + 1) (pm_call M cost zext d) cost (false, false) 108 0 0 Q 43 [some (.ref 65), some (.ref 19), some (.ref 53), some (.ref 36), some (.ref 51), z9] [] 0 0 (zS p q I [(26, none, y11), (29, none, y12), (52, none, y10), (53, some 0, fun _ => y15), (54, none, y13), (55, none, y16), (56, none, y14)] J []))) h ?_ (fun h => ?_)
  · rintro ⟨y10, y11, y12, y13, y14, y15, y16⟩ h z9 hz9
    refine g_iconst (pc' := 44) (v := (1 : Int32)) hc rfl zki_1 rfl ?_
    replace h := zws h
    exact g_ireturn hc rfl rfl rfl (fun _ => ⟨rfl, rfl⟩) h
  refine zitr_ev (G := (fun (g : Int32 × (Nat → Int32) × (Nat → Int32) × (Nat → Int32) × (Nat → Int32) × (Nat → Int32) × Int32 × (Nat → Int32)) => match g with | (x1, x2, x3, x4, x5, x6, x7, x8) => pm_ev C_X1_holdsAll (d + 1) (pm_call M cost zext d) cost (false, false) 108 0 0 Q 3 [some (.ref 65), some (.ref 19), some (.ref 53), some (.ref 36), some (.ref 51), some (.int x1)] [] 0 0 (zS p q I [(26, none, x3), (29, none, x4), (52, none, x2), (53, some 0, fun _ => x7), (54, none, x5), (55, none, x8), (56, none, x6)] J []))) ?_ zFU ((0 : Int32), (I 52), (I 26), (I 29), (I 54), (I 56), (I 53 0), (I 55)) h
  rintro ⟨x1, x2, x3, x4, x5, x6, x7, x8⟩ h
  refine g_iload (pc' := 5)  hc rfl rfl rfl ?_
  refine g_bipush (pc' := 7) (v := (20 : Int32)) hc rfl zkb_20 rfl ?_
  refine g_icmp_gt (pc' := 10) hc rfl rfl (fun hx => ?_) (fun hx => ?_)
  · replace h := zwp_t h hx
    replace h := zwp_r h
    exact h (some (.int x1)) rfl
  · replace h := zwp_f h hx
    refine g_aload_n (pc' := 11)  hc rfl rfl rfl rfl ?_
    refine g_aload_n (pc' := 12)  hc rfl rfl rfl rfl ?_
    refine g_iload (pc' := 14)  hc rfl rfl rfl ?_
    refine z_virt (as := [.ref 53, .int x1]) (a := 36) (r := []) hc rfl rfl rfl rfl sh_36 rfl zco_7 rfl rfl rfl ?_
    refine ok_X0_agrees_36_53 (zdp hd rfl) (zwp_mono (zwp_bind h) ?_)
    rintro r17 h
    refine z_po (pc' := 17) (st' := [.int r17]) (v := (some (.int r17))) (L' := [(26, none, x3), (29, none, x4), (52, none, x2), (53, some 0, fun _ => x7), (54, none, x5), (55, none, x8), (56, none, x6)]) (K' := []) zco_7 rfl rfl rfl rfl rfl rfl rfl rfl ?_
    refine g_if_ne (pc' := 20) hc rfl rfl (fun hx => ?_) (fun hx => ?_)
    · replace h := zwp_f h hx
      refine g_aload (pc' := 24)  hc rfl rfl rfl rfl ?_
      refine g_aload_n (pc' := 25)  hc rfl rfl rfl rfl ?_
      refine g_aload_n (pc' := 26)  hc rfl rfl rfl rfl ?_
      refine g_aload_n (pc' := 27)  hc rfl rfl rfl rfl ?_
      refine g_aload_n (pc' := 28)  hc rfl rfl rfl rfl ?_
      refine z_getI (pc' := 31) (v := x7) hc rfl rfl rfl sh_53 rfl rfl rfl ?_
      refine z_virt (as := [.int x7]) (a := 19) (r := [.ref 53, .ref 19, .ref 51]) hc rfl rfl rfl rfl sh_19 rfl zco_23 rfl rfl rfl ?_
      refine ok_X3_isDull_19 (zdp hd rfl) (zwp_mono (zwp_bind h) ?_)
      rintro r18 h
      refine z_po (pc' := 34) (st' := [.int r18, .ref 53, .ref 19, .ref 51]) (v := (some (.int r18))) (L' := [(26, none, x3), (29, none, x4), (52, none, x2), (53, some 0, fun _ => x7), (54, none, x5), (55, none, x8), (56, none, x6)]) (K' := []) zco_23 rfl rfl rfl rfl rfl rfl rfl rfl ?_
      refine z_virt (as := [.ref 19, .ref 53, .int r18]) (a := 51) (r := []) hc rfl rfl rfl rfl sh_51 rfl zco_14 rfl rfl rfl ?_
      refine ok_X2_passHour_51_19_53 (zdp hd rfl) (zwp_mono (zwp_bind h) ?_)
      rintro ⟨o19, o20, o21, o22, o23, o24, o25⟩ h
      refine z_po (pc' := 37) (st' := []) (v := none) (L' := [(26, none, o19), (29, none, o20), (52, none, o25), (53, some 0, fun _ => o23), (54, none, o21), (55, none, o24), (56, none, o22)]) (K' := []) zco_14 rfl rfl rfl rfl rfl rfl rfl rfl ?_
      refine g_iinc (pc' := 40) (ls1 := [some (.ref 65), some (.ref 19), some (.ref 53), some (.ref 36), some (.ref 51), some (.int (x1 + (1 : Int32)))]) hc rfl rfl zki_1 (zlt rfl) rfl rfl ?_
      refine g_goto hc rfl ?_
      replace h := zwp_l h
      exact h
    · replace h := zwp_t h hx
      refine g_iconst (pc' := 21) (v := (0 : Int32)) hc rfl zki_0 rfl ?_
      replace h := zws h
      exact g_ireturn hc rfl rfl rfl (fun _ => ⟨rfl, rfl⟩) h
set_option maxRecDepth 4000 in
theorem ok_X2_setValues_51_19_66 {p q : Nat} {I : pI} {J : pJ} {a3 : Int32} {Q : pQ} {d : Nat} (hd : 2 ≤ d) (h : zwp (f_X2_setValues a3 (I 24) (I 19 9) (I 21) (I 22) (I 67) (I 66 3) (I 69) (I 66 0) (I 70) (I 68) (I 52)) (fun o0 => Q (.inl none) (zS p q I [(52, none, o0)] J []))) : pm_call M cost zext d 18 [.ref 51, .ref 19, .ref 66, .int a3] (pm_st 108 (shp p q) I J) Q := by
  obtain ⟨d, rfl⟩ := zd1 hd rfl
  have hc := pm_call_m (M := M) (cost := cost) zext_m d
  refine z_in (L := [(52, none, (I 52))]) (K := []) (ls := [some (.ref 51), some (.ref 19), some (.ref 66), some (.int a3)]) zmt_18 zco_18 rfl rfl (zid_a zid_n) zid_n ?_
  delta f_X2_setValues at h
  refine g_aload_n (pc' := 1)  hc rfl rfl rfl rfl ?_
  refine z_getR (pc' := 4)  hc rfl rfl rfl sh_51 rfl rfl ?_
  refine g_iconst (pc' := 5) (v := (0 : Int32)) hc rfl zki_0 rfl ?_
  refine g_aload_n (pc' := 6)  hc rfl rfl rfl rfl ?_
  refine z_getR (pc' := 9)  hc rfl rfl rfl sh_66 rfl rfl ?_
  refine g_iload_n (pc' := 10)  hc rfl rfl rfl ?_
  have hb := (zwp_bnd h).1
  replace h := (zwp_bnd h).2
  refine z_iaload (pc' := 11) (v := (((I 68)) a3.toNatClampNeg)) hc rfl rfl sh_68 hb rfl rfl ?_
  refine z_iastore (pc' := 12) (g := (I 52)) (L' := [(52, none, (upd ((I 52)) 0 (((I 68)) a3.toNatClampNeg)))]) hc rfl rfl sh_52 (by decide) rfl rfl rfl rfl ?_
  refine g_aload_n (pc' := 13)  hc rfl rfl rfl rfl ?_
  refine z_getR (pc' := 16)  hc rfl rfl rfl sh_51 rfl rfl ?_
  refine g_iconst (pc' := 17) (v := (1 : Int32)) hc rfl zki_1 rfl ?_
  refine g_aload_n (pc' := 18)  hc rfl rfl rfl rfl ?_
  refine g_aload_n (pc' := 19)  hc rfl rfl rfl rfl ?_
  refine z_getI (pc' := 22) (v := (I 66 0)) hc rfl rfl rfl sh_66 rfl rfl rfl ?_
  refine z_virt (as := [.int (I 66 0)]) (a := 19) (r := [.int (1 : Int32), .ref 52]) hc rfl rfl rfl rfl sh_19 rfl zco_22 rfl rfl rfl ?_
  refine ok_X3_lightOf_19 (zdp hd rfl) (zwp_mono (zwp_bind h) ?_)
  rintro r1 h
  refine z_po (pc' := 25) (st' := [.int r1, .int (1 : Int32), .ref 52]) (v := (some (.int r1))) (L' := [(52, none, (upd ((I 52)) 0 (((I 68)) a3.toNatClampNeg)))]) (K' := []) zco_22 rfl rfl rfl rfl rfl rfl rfl rfl ?_
  refine z_iastore (pc' := 26) (g := (upd ((I 52)) 0 (((I 68)) a3.toNatClampNeg))) (L' := [(52, none, (upd (upd ((I 52)) 0 (((I 68)) a3.toNatClampNeg)) 1 r1))]) hc rfl rfl sh_52 (by decide) rfl rfl rfl rfl ?_
  refine g_aload_n (pc' := 27)  hc rfl rfl rfl rfl ?_
  refine z_getR (pc' := 30)  hc rfl rfl rfl sh_51 rfl rfl ?_
  refine g_iconst (pc' := 31) (v := (2 : Int32)) hc rfl zki_2 rfl ?_
  refine g_aload_n (pc' := 32)  hc rfl rfl rfl rfl ?_
  refine g_iload_n (pc' := 33)  hc rfl rfl rfl ?_
  refine z_virt (as := [.int a3]) (a := 66) (r := [.int (2 : Int32), .ref 52]) hc rfl rfl rfl rfl sh_66 rfl zco_73 rfl rfl rfl ?_
  refine ok_X8_othersWith_66 (zdp hd rfl) (zwp_mono (zwp_bind h) ?_)
  rintro r2 h
  refine z_po (pc' := 36) (st' := [.int r2, .int (2 : Int32), .ref 52]) (v := (some (.int r2))) (L' := [(52, none, (upd (upd ((I 52)) 0 (((I 68)) a3.toNatClampNeg)) 1 r1))]) (K' := []) zco_73 rfl rfl rfl rfl rfl rfl rfl rfl ?_
  refine z_iastore (pc' := 37) (g := (upd (upd ((I 52)) 0 (((I 68)) a3.toNatClampNeg)) 1 r1)) (L' := [(52, none, (upd (upd (upd ((I 52)) 0 (((I 68)) a3.toNatClampNeg)) 1 r1) 2 r2))]) hc rfl rfl sh_52 (by decide) rfl rfl rfl rfl ?_
  refine g_aload_n (pc' := 38)  hc rfl rfl rfl rfl ?_
  refine z_getR (pc' := 41)  hc rfl rfl rfl sh_51 rfl rfl ?_
  refine g_iconst (pc' := 42) (v := (3 : Int32)) hc rfl zki_3 rfl ?_
  refine g_aload_n (pc' := 43)  hc rfl rfl rfl rfl ?_
  refine z_getI (pc' := 46) (v := (I 66 0)) hc rfl rfl rfl sh_66 rfl rfl rfl ?_
  refine z_iastore (pc' := 47) (g := (upd (upd (upd ((I 52)) 0 (((I 68)) a3.toNatClampNeg)) 1 r1) 2 r2)) (L' := [(52, none, (upd (upd (upd (upd ((I 52)) 0 (((I 68)) a3.toNatClampNeg)) 1 r1) 2 r2) 3 ((I 66 0))))]) hc rfl rfl sh_52 (by decide) rfl rfl rfl rfl ?_
  refine g_aload_n (pc' := 48)  hc rfl rfl rfl rfl ?_
  refine z_getR (pc' := 51)  hc rfl rfl rfl sh_51 rfl rfl ?_
  refine g_iconst (pc' := 52) (v := (4 : Int32)) hc rfl zki_4 rfl ?_
  refine g_aload_n (pc' := 53)  hc rfl rfl rfl rfl ?_
  refine g_iload_n (pc' := 54)  hc rfl rfl rfl ?_
  refine g_aload_n (pc' := 55)  hc rfl rfl rfl rfl ?_
  refine z_getI (pc' := 58) (v := (I 66 0)) hc rfl rfl rfl sh_66 rfl rfl rfl ?_
  refine g_aload_n (pc' := 59)  hc rfl rfl rfl rfl ?_
  refine z_getR (pc' := 62)  hc rfl rfl rfl sh_66 rfl rfl ?_
  refine g_iload_n (pc' := 63)  hc rfl rfl rfl ?_
  have hb := (zwp_bnd h).1
  replace h := (zwp_bnd h).2
  refine z_iaload (pc' := 64) (v := (((I 70)) a3.toNatClampNeg)) hc rfl rfl sh_70 hb rfl rfl ?_
  refine g_iadd (pc' := 65)  hc rfl rfl ?_
  refine z_virt (as := [.int a3, .int (((I 66 0)) + (((I 70)) a3.toNatClampNeg))]) (a := 19) (r := [.int (4 : Int32), .ref 52]) hc rfl rfl rfl rfl sh_19 rfl zco_24 rfl rfl rfl ?_
  refine ok_X3_stepOf_19 (zdp hd rfl) (zwp_mono (zwp_bind h) ?_)
  rintro r3 h
  refine z_po (pc' := 68) (st' := [.int r3, .int (4 : Int32), .ref 52]) (v := (some (.int r3))) (L' := [(52, none, (upd (upd (upd (upd ((I 52)) 0 (((I 68)) a3.toNatClampNeg)) 1 r1) 2 r2) 3 ((I 66 0))))]) (K' := []) zco_24 rfl rfl rfl rfl rfl rfl rfl rfl ?_
  refine z_iastore (pc' := 69) (g := (upd (upd (upd (upd ((I 52)) 0 (((I 68)) a3.toNatClampNeg)) 1 r1) 2 r2) 3 ((I 66 0)))) (L' := [(52, none, (upd (upd (upd (upd (upd ((I 52)) 0 (((I 68)) a3.toNatClampNeg)) 1 r1) 2 r2) 3 ((I 66 0))) 4 r3))]) hc rfl rfl sh_52 (by decide) rfl rfl rfl rfl ?_
  refine g_aload_n (pc' := 70)  hc rfl rfl rfl rfl ?_
  refine z_getR (pc' := 73)  hc rfl rfl rfl sh_51 rfl rfl ?_
  refine g_iconst (pc' := 74) (v := (5 : Int32)) hc rfl zki_5 rfl ?_
  refine g_aload_n (pc' := 75)  hc rfl rfl rfl rfl ?_
  refine z_getR (pc' := 78)  hc rfl rfl rfl sh_66 rfl rfl ?_
  refine g_iload_n (pc' := 79)  hc rfl rfl rfl ?_
  have hb := (zwp_bnd h).1
  replace h := (zwp_bnd h).2
  refine z_iaload (pc' := 80) (v := (((I 69)) a3.toNatClampNeg)) hc rfl rfl sh_69 hb rfl rfl ?_
  refine z_iastore (pc' := 81) (g := (upd (upd (upd (upd (upd ((I 52)) 0 (((I 68)) a3.toNatClampNeg)) 1 r1) 2 r2) 3 ((I 66 0))) 4 r3)) (L' := [(52, none, (upd (upd (upd (upd (upd (upd ((I 52)) 0 (((I 68)) a3.toNatClampNeg)) 1 r1) 2 r2) 3 ((I 66 0))) 4 r3) 5 (((I 69)) a3.toNatClampNeg)))]) hc rfl rfl sh_52 (by decide) rfl rfl rfl rfl ?_
  replace h := zws h
  exact g_return hc rfl rfl (fun _ => ⟨rfl, rfl⟩) h
set_option maxRecDepth 4000 in
theorem ok_X2_hurt_51_19_66 {p q : Nat} {I : pI} {J : pJ} {a3 : Int32} {Q : pQ} {d : Nat} (hd : 3 ≤ d) (h : zwp (f_X2_hurt a3 (I 30) (I 28 2) (I 29) (I 24) (I 19 9) (I 21) (I 22) (I 67) (I 66 3) (I 69) (I 66 0) (I 70) (I 68) (I 52)) (fun w => match w with | (o0, o1, o2) => Q (.inl none) (zS p q I [(29, none, o0), (52, none, o2), (68, none, o1)] J []))) : pm_call M cost zext d 15 [.ref 51, .ref 19, .ref 66, .int a3] (pm_st 108 (shp p q) I J) Q := by
  obtain ⟨d, rfl⟩ := zd1 hd rfl
  have hc := pm_call_m (M := M) (cost := cost) zext_m d
  refine z_in (L := [(29, none, (I 29)), (52, none, (I 52)), (68, none, (I 68))]) (K := []) (ls := [some (.ref 51), some (.ref 19), some (.ref 66), some (.int a3), none]) zmt_15 zco_15 rfl rfl (zid_a (zid_a (zid_a zid_n))) zid_n ?_
  delta f_X2_hurt at h
  refine g_iconst (pc' := 1) (v := (1 : Int32)) hc rfl zki_1 rfl ?_
  refine g_istore (pc' := 3) (ls1 := [some (.ref 51), some (.ref 19), some (.ref 66), some (.int a3), some (.int (1 : Int32))]) hc rfl (zlt rfl) rfl rfl ?_
  refine g_aload_n (pc' := 4)  hc rfl rfl rfl rfl ?_
  refine z_getR (pc' := 7)  hc rfl rfl rfl sh_19 rfl rfl ?_
  refine z_virt (as := []) (a := 28) (r := []) hc rfl rfl rfl rfl sh_28 rfl zco_43 rfl rfl rfl ?_
  refine ok_X5_isTold_28 (zdp hd rfl) (zwp_mono (zwp_bind h) ?_)
  rintro r1 h
  refine z_po (pc' := 10) (st' := [.int r1]) (v := (some (.int r1))) (L' := [(29, none, (I 29)), (52, none, (I 52)), (68, none, (I 68))]) (K' := []) zco_43 rfl rfl rfl rfl rfl rfl rfl rfl ?_
  refine zjn (G := (fun (g : Int32 × (Nat → Int32) × (Nat → Int32)) => match g with | (j2, j3, j4) => pm_ev C_X2_hurt (d + 1) (pm_call M cost zext d) cost (false, false) 108 0 0 Q 42 [some (.ref 51), some (.ref 19), some (.ref 66), some (.int a3), some (.int j2)] [] 0 0 (zS p q I [(29, none, j3), (52, none, j4), (68, none, (I 68))] J []))) (zwp_bind h) ?_ (fun h => ?_)
  · rintro ⟨j2, j3, j4⟩ h
    refine g_aload_n (pc' := 43)  hc rfl rfl rfl rfl ?_
    refine z_getR (pc' := 46)  hc rfl rfl rfl sh_66 rfl rfl ?_
    refine g_iload_n (pc' := 47)  hc rfl rfl rfl ?_
    refine g_bipush (pc' := 49) (v := (99 : Int32)) hc rfl zkb_99 rfl ?_
    refine g_aload_n (pc' := 50)  hc rfl rfl rfl rfl ?_
    refine z_getR (pc' := 53)  hc rfl rfl rfl sh_66 rfl rfl ?_
    refine g_iload_n (pc' := 54)  hc rfl rfl rfl ?_
    have hb := (zwp_bnd h).1
    replace h := (zwp_bnd h).2
    refine z_iaload (pc' := 55) (v := (((I 68)) a3.toNatClampNeg)) hc rfl rfl sh_68 hb rfl rfl ?_
    refine g_iload (pc' := 57)  hc rfl rfl rfl ?_
    refine g_iadd (pc' := 58)  hc rfl rfl ?_
    refine z_min (pc' := 61)  hc rfl rfl (zdq hd rfl) rfl rfl ?_
    have hb := (zwp_bnd h).1
    replace h := (zwp_bnd h).2
    refine z_iastore (pc' := 62) (g := (I 68)) (L' := [(29, none, j3), (52, none, j4), (68, none, (upd ((I 68)) a3.toNatClampNeg (if ((((I 68)) a3.toNatClampNeg) + j2) < (99 : Int32) then ((((I 68)) a3.toNatClampNeg) + j2) else (99 : Int32))))]) hc rfl rfl sh_68 hb rfl rfl rfl rfl ?_
    replace h := zws h
    exact g_return hc rfl rfl (fun _ => ⟨rfl, rfl⟩) h
  refine g_if_eq (pc' := 13) hc rfl rfl (fun hx => ?_) (fun hx => ?_)
  · replace h := zwp_t h hx
    replace h := zws h
    exact h
  · replace h := zwp_f h hx
    refine g_aload_n (pc' := 14)  hc rfl rfl rfl rfl ?_
    refine g_aload_n (pc' := 15)  hc rfl rfl rfl rfl ?_
    refine g_aload_n (pc' := 16)  hc rfl rfl rfl rfl ?_
    refine g_iload_n (pc' := 17)  hc rfl rfl rfl ?_
    refine z_virt (as := [.ref 19, .ref 66, .int a3]) (a := 51) (r := []) hc rfl rfl rfl rfl sh_51 rfl zco_18 rfl rfl rfl ?_
    refine ok_X2_setValues_51_19_66 (zdp hd rfl) (zwp_mono (zwp_bind h) ?_)
    rintro o5 h
    refine z_po (pc' := 20) (st' := []) (v := none) (L' := [(29, none, (I 29)), (52, none, o5), (68, none, (I 68))]) (K' := []) zco_18 rfl rfl rfl rfl rfl rfl rfl rfl ?_
    refine g_iconst (pc' := 21) (v := (0 : Int32)) hc rfl zki_0 rfl ?_
    refine g_bipush (pc' := 23) (v := (9 : Int32)) hc rfl zkb_9 rfl ?_
    refine g_aload_n (pc' := 24)  hc rfl rfl rfl rfl ?_
    refine z_getR (pc' := 27)  hc rfl rfl rfl sh_19 rfl rfl ?_
    refine g_aload_n (pc' := 28)  hc rfl rfl rfl rfl ?_
    refine z_getR (pc' := 31)  hc rfl rfl rfl sh_51 rfl rfl ?_
    refine z_virt (as := [.ref 52]) (a := 28) (r := [.int (9 : Int32), .int (0 : Int32)]) hc rfl rfl rfl rfl sh_28 rfl zco_45 rfl rfl rfl ?_
    refine ok_X5_value_28_52 (zdp hd rfl) (zwp_mono (zwp_bind h) ?_)
    rintro ⟨r7, o6⟩ h
    refine z_po (pc' := 34) (st' := [.int r7, .int (9 : Int32), .int (0 : Int32)]) (v := (some (.int r7))) (L' := [(29, none, o6), (52, none, o5), (68, none, (I 68))]) (K' := []) zco_45 rfl rfl rfl rfl rfl rfl rfl rfl ?_
    refine z_min (pc' := 37)  hc rfl rfl (zdq hd rfl) rfl rfl ?_
    refine z_max (pc' := 40)  hc rfl rfl (zdq hd rfl) rfl rfl ?_
    refine g_istore (pc' := 42) (ls1 := [some (.ref 51), some (.ref 19), some (.ref 66), some (.int a3), some (.int (if (0 : Int32) < (if r7 < (9 : Int32) then r7 else (9 : Int32)) then (if r7 < (9 : Int32) then r7 else (9 : Int32)) else (0 : Int32)))]) hc rfl (zlt rfl) rfl rfl ?_
    replace h := zws h
    exact h
set_option maxRecDepth 4000 in
theorem ok_X2_wantsToGo_51_19_66 {p q : Nat} {I : pI} {J : pJ} {a3 : Int32} {Q : pQ} {d : Nat} (hd : 3 ≤ d) (h : zwp (f_X2_wantsToGo a3 (I 27) (I 25 2) (I 26) (I 24) (I 19 9) (I 21) (I 22) (I 67) (I 66 3) (I 69) (I 66 0) (I 70) (I 68) (I 52)) (fun w => match w with | (r, o0, o1) => Q (.inl (some (.int r))) (zS p q I [(26, none, o0), (52, none, o1)] J []))) : pm_call M cost zext d 16 [.ref 51, .ref 19, .ref 66, .int a3] (pm_st 108 (shp p q) I J) Q := by
  obtain ⟨d, rfl⟩ := zd1 hd rfl
  have hc := pm_call_m (M := M) (cost := cost) zext_m d
  refine z_in (L := [(26, none, (I 26)), (52, none, (I 52))]) (K := []) (ls := [some (.ref 51), some (.ref 19), some (.ref 66), some (.int a3)]) zmt_16 zco_16 rfl rfl (zid_a (zid_a zid_n)) zid_n ?_
  delta f_X2_wantsToGo at h
  refine g_aload_n (pc' := 1)  hc rfl rfl rfl rfl ?_
  refine z_getR (pc' := 4)  hc rfl rfl rfl sh_19 rfl rfl ?_
  refine z_virt (as := []) (a := 25) (r := []) hc rfl rfl rfl rfl sh_25 rfl zco_43 rfl rfl rfl ?_
  refine ok_X5_isTold_25 (zdp hd rfl) (zwp_mono (zwp_bind h) ?_)
  rintro r1 h
  refine z_po (pc' := 7) (st' := [.int r1]) (v := (some (.int r1))) (L' := [(26, none, (I 26)), (52, none, (I 52))]) (K' := []) zco_43 rfl rfl rfl rfl rfl rfl rfl rfl ?_
  refine g_if_ne (pc' := 10) hc rfl rfl (fun hx => ?_) (fun hx => ?_)
  · replace h := zwp_f h hx
    refine g_aload_n (pc' := 28)  hc rfl rfl rfl rfl ?_
    refine g_aload_n (pc' := 29)  hc rfl rfl rfl rfl ?_
    refine g_aload_n (pc' := 30)  hc rfl rfl rfl rfl ?_
    refine g_iload_n (pc' := 31)  hc rfl rfl rfl ?_
    refine z_virt (as := [.ref 19, .ref 66, .int a3]) (a := 51) (r := []) hc rfl rfl rfl rfl sh_51 rfl zco_18 rfl rfl rfl ?_
    refine ok_X2_setValues_51_19_66 (zdp hd rfl) (zwp_mono (zwp_bind h) ?_)
    rintro o2 h
    refine z_po (pc' := 34) (st' := []) (v := none) (L' := [(26, none, (I 26)), (52, none, o2)]) (K' := []) zco_18 rfl rfl rfl rfl rfl rfl rfl rfl ?_
    refine g_aload_n (pc' := 35)  hc rfl rfl rfl rfl ?_
    refine z_getR (pc' := 38)  hc rfl rfl rfl sh_19 rfl rfl ?_
    refine g_aload_n (pc' := 39)  hc rfl rfl rfl rfl ?_
    refine z_getR (pc' := 42)  hc rfl rfl rfl sh_51 rfl rfl ?_
    refine z_virt (as := [.ref 52]) (a := 25) (r := []) hc rfl rfl rfl rfl sh_25 rfl zco_45 rfl rfl rfl ?_
    refine ok_X5_value_25_52 (zdp hd rfl) (zwp_mono (zwp_bind h) ?_)
    rintro ⟨r4, o3⟩ h
    refine z_po (pc' := 45) (st' := [.int r4]) (v := (some (.int r4))) (L' := [(26, none, o3), (52, none, o2)]) (K' := []) zco_45 rfl rfl rfl rfl rfl rfl rfl rfl ?_
    refine g_if_le (pc' := 48) hc rfl rfl (fun hx => ?_) (fun hx => ?_)
    · replace h := zwp_t h hx
      refine g_iconst (pc' := 53) (v := (0 : Int32)) hc rfl zki_0 rfl ?_
      replace h := zws h
      exact g_ireturn hc rfl rfl rfl (fun _ => ⟨rfl, rfl⟩) h
    · replace h := zwp_f h hx
      refine g_iconst (pc' := 49) (v := (1 : Int32)) hc rfl zki_1 rfl ?_
      refine g_goto hc rfl ?_
      replace h := zws h
      exact g_ireturn hc rfl rfl rfl (fun _ => ⟨rfl, rfl⟩) h
  · replace h := zwp_t h hx
    refine g_aload_n (pc' := 11)  hc rfl rfl rfl rfl ?_
    refine z_getR (pc' := 14)  hc rfl rfl rfl sh_66 rfl rfl ?_
    refine g_iload_n (pc' := 15)  hc rfl rfl rfl ?_
    have hb := (zwp_bnd h).1
    replace h := (zwp_bnd h).2
    refine z_iaload (pc' := 16) (v := (((I 68)) a3.toNatClampNeg)) hc rfl rfl sh_68 hb rfl rfl ?_
    refine g_bipush (pc' := 18) (v := (10 : Int32)) hc rfl zkb_10 rfl ?_
    refine g_icmp_ge (pc' := 21) hc rfl rfl (fun hx => ?_) (fun hx => ?_)
    · replace h := zwp_t h hx
      refine g_iconst (pc' := 26) (v := (0 : Int32)) hc rfl zki_0 rfl ?_
      replace h := zws h
      exact g_ireturn hc rfl rfl rfl (fun _ => ⟨rfl, rfl⟩) h
    · replace h := zwp_f h hx
      refine g_iconst (pc' := 22) (v := (1 : Int32)) hc rfl zki_1 rfl ?_
      refine g_goto hc rfl ?_
      replace h := zws h
      exact g_ireturn hc rfl rfl rfl (fun _ => ⟨rfl, rfl⟩) h
set_option maxRecDepth 4000 in
theorem ok_X2_go_51_19_66 {p q : Nat} {I : pI} {J : pJ} {a3 : Int32} {Q : pQ} {d : Nat} (hd : 3 ≤ d) (h : zwp (f_X2_go a3 (I 19 1) (I 21) (I 22) (I 19 0) (I 67) (I 66 0) (I 70) (J 66 2)) (fun o0 => Q (.inl none) (zS p q I [(67, none, o0)] J []))) : pm_call M cost zext d 17 [.ref 51, .ref 19, .ref 66, .int a3] (pm_st 108 (shp p q) I J) Q := by
  obtain ⟨d, rfl⟩ := zd1 hd rfl
  have hc := pm_call_m (M := M) (cost := cost) zext_m d
  refine z_in (L := [(67, none, (I 67))]) (K := []) (ls := [some (.ref 51), some (.ref 19), some (.ref 66), some (.int a3), none]) zmt_17 zco_17 rfl rfl (zid_a zid_n) zid_n ?_
  delta f_X2_go at h
  refine g_aload_n (pc' := 1)  hc rfl rfl rfl rfl ?_
  refine g_aload_n (pc' := 2)  hc rfl rfl rfl rfl ?_
  refine z_getR (pc' := 5)  hc rfl rfl rfl sh_66 rfl rfl ?_
  refine g_iload_n (pc' := 6)  hc rfl rfl rfl ?_
  have hb := (zwp_bnd h).1
  replace h := (zwp_bnd h).2
  refine z_iaload (pc' := 7) (v := (((I 67)) a3.toNatClampNeg)) hc rfl rfl sh_67 hb rfl rfl ?_
  refine g_aload_n (pc' := 8)  hc rfl rfl rfl rfl ?_
  refine g_iload_n (pc' := 9)  hc rfl rfl rfl ?_
  refine g_aload_n (pc' := 10)  hc rfl rfl rfl rfl ?_
  refine z_getI (pc' := 13) (v := (I 66 0)) hc rfl rfl rfl sh_66 rfl rfl rfl ?_
  refine g_aload_n (pc' := 14)  hc rfl rfl rfl rfl ?_
  refine z_getR (pc' := 17)  hc rfl rfl rfl sh_66 rfl rfl ?_
  refine g_iload_n (pc' := 18)  hc rfl rfl rfl ?_
  have hb := (zwp_bnd h).1
  replace h := (zwp_bnd h).2
  refine z_iaload (pc' := 19) (v := (((I 70)) a3.toNatClampNeg)) hc rfl rfl sh_70 hb rfl rfl ?_
  refine g_iadd (pc' := 20)  hc rfl rfl ?_
  refine z_virt (as := [.int a3, .int (((I 66 0)) + (((I 70)) a3.toNatClampNeg))]) (a := 19) (r := [.int (((I 67)) a3.toNatClampNeg), .ref 19]) hc rfl rfl rfl rfl sh_19 rfl zco_24 rfl rfl rfl ?_
  refine ok_X3_stepOf_19 (zdp hd rfl) (zwp_mono (zwp_bind h) ?_)
  rintro r1 h
  refine z_po (pc' := 23) (st' := [.int r1, .int (((I 67)) a3.toNatClampNeg), .ref 19]) (v := (some (.int r1))) (L' := [(67, none, (I 67))]) (K' := []) zco_24 rfl rfl rfl rfl rfl rfl rfl rfl ?_
  refine z_virt (as := [.int (((I 67)) a3.toNatClampNeg), .int r1]) (a := 19) (r := []) hc rfl rfl rfl rfl sh_19 rfl zco_28 rfl rfl rfl ?_
  refine ok_X3_beside_19 (zdp hd rfl) (zwp_mono (zwp_bind h) ?_)
  rintro r2 h
  refine z_po (pc' := 26) (st' := [.int r2]) (v := (some (.int r2))) (L' := [(67, none, (I 67))]) (K' := []) zco_28 rfl rfl rfl rfl rfl rfl rfl rfl ?_
  refine g_istore (pc' := 28) (ls1 := [some (.ref 51), some (.ref 19), some (.ref 66), some (.int a3), some (.int r2)]) hc rfl (zlt rfl) rfl rfl ?_
  refine g_iload (pc' := 30)  hc rfl rfl rfl ?_
  refine g_iconst (pc' := 31) (v := (-1 : Int32)) hc rfl zki_m1 rfl ?_
  refine g_icmp_eq (pc' := 34) hc rfl rfl (fun hx => ?_) (fun hx => ?_)
  · replace h := zwp_t h hx
    replace h := zws h
    exact g_return hc rfl rfl (fun _ => ⟨rfl, rfl⟩) h
  · replace h := zwp_f h hx
    refine g_aload_n (pc' := 35)  hc rfl rfl rfl rfl ?_
    refine g_iload (pc' := 37)  hc rfl rfl rfl ?_
    refine z_virt (as := [.int r2]) (a := 66) (r := []) hc rfl rfl rfl rfl sh_66 rfl zco_71 rfl rfl rfl ?_
    refine ok_X8_isWall_66 (zdp hd rfl) (zwp_mono (zwp_bind h) ?_)
    rintro r3 h
    refine z_po (pc' := 40) (st' := [.int r3]) (v := (some (.int r3))) (L' := [(67, none, (I 67))]) (K' := []) zco_71 rfl rfl rfl rfl rfl rfl rfl rfl ?_
    refine g_if_ne (pc' := 43) hc rfl rfl (fun hx => ?_) (fun hx => ?_)
    · replace h := zwp_f h hx
      replace h := zws h
      exact g_return hc rfl rfl (fun _ => ⟨rfl, rfl⟩) h
    · replace h := zwp_t h hx
      refine g_aload_n (pc' := 44)  hc rfl rfl rfl rfl ?_
      refine z_getR (pc' := 47)  hc rfl rfl rfl sh_66 rfl rfl ?_
      refine g_iload_n (pc' := 48)  hc rfl rfl rfl ?_
      refine g_iload (pc' := 50)  hc rfl rfl rfl ?_
      have hb := (zwp_bnd h).1
      replace h := (zwp_bnd h).2
      refine z_iastore (pc' := 51) (g := (I 67)) (L' := [(67, none, (upd ((I 67)) a3.toNatClampNeg r2))]) hc rfl rfl sh_67 hb rfl rfl rfl rfl ?_
      replace h := zws h
      exact g_return hc rfl rfl (fun _ => ⟨rfl, rfl⟩) h
set_option maxRecDepth 4000 in
theorem ok_X2_passHour_51_19_66 {p q : Nat} {I : pI} {J : pJ} {a3 : Int32} {Q : pQ} {d : Nat} (hd : 4 ≤ d) (h : zwp (f_X2_passHour a3 (I 19 3) (I 27) (I 25 2) (I 26) (I 19 1) (I 30) (I 28 2) (I 29) (I 24) (I 19 9) (I 21) (I 22) (I 19 0) (I 67) (I 66 3) (I 69) (I 66 0) (I 70) (I 68) (J 66 2) (I 52)) (fun w => match w with | (o0, o1, o2, o3, o4, o5, o6) => Q (.inl none) (zS p q I [(26, none, o0), (29, none, o1), (52, none, o6), (66, some 0, fun _ => o4), (67, none, o2), (68, none, o5), (69, none, o3)] J []))) : pm_call M cost zext d 14 [.ref 51, .ref 19, .ref 66, .int a3] (pm_st 108 (shp p q) I J) Q := by
  obtain ⟨d, rfl⟩ := zd1 hd rfl
  have hc := pm_call_m (M := M) (cost := cost) zext_m d
  refine z_in (L := [(26, none, (I 26)), (29, none, (I 29)), (52, none, (I 52)), (66, some 0, fun _ => (I 66 0)), (67, none, (I 67)), (68, none, (I 68)), (69, none, (I 69))]) (K := []) (ls := [some (.ref 51), some (.ref 19), some (.ref 66), some (.int a3), none]) zmt_14 zco_14 rfl rfl (zid_a (zid_a (zid_a (zid_s (zid_a (zid_a (zid_a zid_n))))))) zid_n ?_
  delta f_X2_passHour at h
  refine g_iconst (pc' := 1) (v := (0 : Int32)) hc rfl zki_0 rfl ?_
  refine g_istore (pc' := 3) (ls1 := [some (.ref 51), some (.ref 19), some (.ref 66), some (.int a3), some (.int (0 : Int32))]) hc rfl (zlt rfl) rfl rfl ?_
  refine zjn (G := (fun (g : (Nat → Int32) × (Nat → Int32) × (Nat → Int32) × (Nat → Int32) × (Nat → Int32)) => match g with | (y8, y9, y10, y11, y12) => ∀ z7 : Option Value, znl z7 = true → pm_ev C_X2_passHour (d + 1) (pm_call M cost zext d) cost (false, false) 108 0 0 Q 62 [some (.ref 51), some (.ref 19), some (.ref 66), some (.int a3), z7] [] 0 0 (zS p q I [(26, none, y8), (29, none, y9), (52, none, y12), (66, some 0, fun _ => (I 66 0)), (67, none, y10), (68, none, y11), (69, none, (I 69))] J []))) (zwp_bind h) ?_ (fun h => ?_)
  · rintro ⟨y8, y9, y10, y11, y12⟩ h z7 hz7
    refine g_iconst (pc' := 63) (v := (0 : Int32)) hc rfl zki_0 rfl ?_
    refine g_istore (pc' := 65) (ls1 := [some (.ref 51), some (.ref 19), some (.ref 66), some (.int a3), some (.int (0 : Int32))]) hc rfl (zlt rfl) rfl rfl ?_
    refine zjn (G := (fun (y16 : (Nat → Int32)) => ∀ z15 : Option Value, znl z15 = true → pm_ev C_X2_passHour (d + 1) (pm_call M cost zext d) cost (false, false) 108 0 0 Q 100 [some (.ref 51), some (.ref 19), some (.ref 66), some (.int a3), z15] [] 0 0 (zS p q I [(26, none, y8), (29, none, y9), (52, none, y12), (66, some 0, fun _ => (I 66 0)), (67, none, y10), (68, none, y11), (69, none, y16)] J []))) (zwp_bind h) ?_ (fun h => ?_)
    · rintro y16 h z15 hz15
      refine g_aload_n (pc' := 101)  hc rfl rfl rfl rfl ?_
      refine g_dup (pc' := 102)  hc rfl rfl rfl ?_
      refine z_getI (pc' := 105) (v := (I 66 0)) hc rfl rfl rfl sh_66 rfl rfl rfl ?_
      refine g_iconst (pc' := 106) (v := (1 : Int32)) hc rfl zki_1 rfl ?_
      refine g_iadd (pc' := 107)  hc rfl rfl ?_
      refine z_putI (pc' := 110) (L' := [(26, none, y8), (29, none, y9), (52, none, y12), (66, some 0, fun _ => (((I 66 0)) + (1 : Int32))), (67, none, y10), (68, none, y11), (69, none, y16)]) hc rfl rfl rfl sh_66 rfl zft_8_0 rfl (fun h => Bool.noConfusion h) rfl rfl rfl ?_
      replace h := zws h
      exact g_return hc rfl rfl (fun _ => ⟨rfl, rfl⟩) h
    refine zitr_ev (G := (fun (g : Int32 × (Nat → Int32)) => match g with | (x13, x14) => pm_ev C_X2_passHour (d + 1) (pm_call M cost zext d) cost (false, false) 108 0 0 Q 65 [some (.ref 51), some (.ref 19), some (.ref 66), some (.int a3), some (.int x13)] [] 0 0 (zS p q I [(26, none, y8), (29, none, y9), (52, none, y12), (66, some 0, fun _ => (I 66 0)), (67, none, y10), (68, none, y11), (69, none, x14)] J []))) ?_ zFU ((0 : Int32), (I 69)) h
    rintro ⟨x13, x14⟩ h
    refine g_iload (pc' := 67)  hc rfl rfl rfl ?_
    refine g_aload_n (pc' := 68)  hc rfl rfl rfl rfl ?_
    refine z_getI (pc' := 71) (v := (I 19 3)) hc rfl rfl rfl sh_19 rfl rfl rfl ?_
    refine g_icmp_ge (pc' := 74) hc rfl rfl (fun hx => ?_) (fun hx => ?_)
    · replace h := zwp_t h hx
      replace h := zwp_r h
      exact h (some (.int x13)) rfl
    · replace h := zwp_f h hx
      refine g_aload_n (pc' := 75)  hc rfl rfl rfl rfl ?_
      refine z_getR (pc' := 78)  hc rfl rfl rfl sh_66 rfl rfl ?_
      refine g_iload (pc' := 80)  hc rfl rfl rfl ?_
      refine g_iconst (pc' := 81) (v := (0 : Int32)) hc rfl zki_0 rfl ?_
      refine g_aload_n (pc' := 82)  hc rfl rfl rfl rfl ?_
      refine z_getR (pc' := 85)  hc rfl rfl rfl sh_66 rfl rfl ?_
      refine g_iload (pc' := 87)  hc rfl rfl rfl ?_
      have hb := (zwp_bnd h).1
      replace h := (zwp_bnd h).2
      refine z_iaload (pc' := 88) (v := (x14 x13.toNatClampNeg)) hc rfl rfl sh_69 hb rfl rfl ?_
      refine g_iconst (pc' := 89) (v := (1 : Int32)) hc rfl zki_1 rfl ?_
      refine g_isub (pc' := 90)  hc rfl rfl ?_
      refine z_max (pc' := 93)  hc rfl rfl (zdq hd rfl) rfl rfl ?_
      have hb := (zwp_bnd h).1
      replace h := (zwp_bnd h).2
      refine z_iastore (pc' := 94) (g := x14) (L' := [(26, none, y8), (29, none, y9), (52, none, y12), (66, some 0, fun _ => (I 66 0)), (67, none, y10), (68, none, y11), (69, none, (upd x14 x13.toNatClampNeg (if (0 : Int32) < ((x14 x13.toNatClampNeg) - (1 : Int32)) then ((x14 x13.toNatClampNeg) - (1 : Int32)) else (0 : Int32))))]) hc rfl rfl sh_69 hb rfl rfl rfl rfl ?_
      refine g_iinc (pc' := 97) (ls1 := [some (.ref 51), some (.ref 19), some (.ref 66), some (.int a3), some (.int (x13 + (1 : Int32)))]) hc rfl rfl zki_1 (zlt rfl) rfl rfl ?_
      refine g_goto hc rfl ?_
      replace h := zwp_l h
      exact h
  refine zitr_ev (G := (fun (g : Int32 × (Nat → Int32) × (Nat → Int32) × (Nat → Int32) × (Nat → Int32) × (Nat → Int32)) => match g with | (x1, x2, x3, x4, x5, x6) => pm_ev C_X2_passHour (d + 1) (pm_call M cost zext d) cost (false, false) 108 0 0 Q 3 [some (.ref 51), some (.ref 19), some (.ref 66), some (.int a3), some (.int x1)] [] 0 0 (zS p q I [(26, none, x2), (29, none, x3), (52, none, x6), (66, some 0, fun _ => (I 66 0)), (67, none, x4), (68, none, x5), (69, none, (I 69))] J []))) ?_ zFU ((0 : Int32), (I 26), (I 29), (I 67), (I 68), (I 52)) h
  rintro ⟨x1, x2, x3, x4, x5, x6⟩ h
  refine g_iload (pc' := 5)  hc rfl rfl rfl ?_
  refine g_aload_n (pc' := 6)  hc rfl rfl rfl rfl ?_
  refine z_getI (pc' := 9) (v := (I 19 3)) hc rfl rfl rfl sh_19 rfl rfl rfl ?_
  refine g_icmp_ge (pc' := 12) hc rfl rfl (fun hx => ?_) (fun hx => ?_)
  · replace h := zwp_t h hx
    replace h := zwp_r h
    exact h (some (.int x1)) rfl
  · replace h := zwp_f h hx
    refine g_aload_n (pc' := 13)  hc rfl rfl rfl rfl ?_
    refine z_getR (pc' := 16)  hc rfl rfl rfl sh_66 rfl rfl ?_
    refine g_iload (pc' := 18)  hc rfl rfl rfl ?_
    have hb := (zwp_bnd h).1
    replace h := (zwp_bnd h).2
    refine z_iaload (pc' := 19) (v := (((I 69)) x1.toNatClampNeg)) hc rfl rfl sh_69 hb rfl rfl ?_
    refine g_if_le (pc' := 22) hc rfl rfl (fun hx => ?_) (fun hx => ?_)
    · replace h := zwp_t h hx
      refine g_aload_n (pc' := 38)  hc rfl rfl rfl rfl ?_
      refine g_aload_n (pc' := 39)  hc rfl rfl rfl rfl ?_
      refine g_aload_n (pc' := 40)  hc rfl rfl rfl rfl ?_
      refine g_iload (pc' := 42)  hc rfl rfl rfl ?_
      refine z_virt (as := [.ref 19, .ref 66, .int x1]) (a := 51) (r := []) hc rfl rfl rfl rfl sh_51 rfl zco_16 rfl rfl rfl ?_
      refine ok_X2_wantsToGo_51_19_66 (zdp hd rfl) (zwp_mono (zwp_bind h) ?_)
      rintro ⟨r19, o17, o18⟩ h
      refine z_po (pc' := 45) (st' := [.int r19]) (v := (some (.int r19))) (L' := [(26, none, o17), (29, none, x3), (52, none, o18), (66, some 0, fun _ => (I 66 0)), (67, none, x4), (68, none, x5), (69, none, (I 69))]) (K' := []) zco_16 rfl rfl rfl rfl rfl rfl rfl rfl ?_
      refine g_if_eq (pc' := 48) hc rfl rfl (fun hx => ?_) (fun hx => ?_)
      · replace h := zwp_t h hx
        refine g_iinc (pc' := 59) (ls1 := [some (.ref 51), some (.ref 19), some (.ref 66), some (.int a3), some (.int (x1 + (1 : Int32)))]) hc rfl rfl zki_1 (zlt rfl) rfl rfl ?_
        refine g_goto hc rfl ?_
        replace h := zwp_l h
        exact h
      · replace h := zwp_f h hx
        refine g_aload_n (pc' := 49)  hc rfl rfl rfl rfl ?_
        refine g_aload_n (pc' := 50)  hc rfl rfl rfl rfl ?_
        refine g_aload_n (pc' := 51)  hc rfl rfl rfl rfl ?_
        refine g_iload (pc' := 53)  hc rfl rfl rfl ?_
        refine z_virt (as := [.ref 19, .ref 66, .int x1]) (a := 51) (r := []) hc rfl rfl rfl rfl sh_51 rfl zco_17 rfl rfl rfl ?_
        refine ok_X2_go_51_19_66 (zdp hd rfl) (zwp_mono (zwp_bind h) ?_)
        rintro o20 h
        refine z_po (pc' := 56) (st' := []) (v := none) (L' := [(26, none, o17), (29, none, x3), (52, none, o18), (66, some 0, fun _ => (I 66 0)), (67, none, o20), (68, none, x5), (69, none, (I 69))]) (K' := []) zco_17 rfl rfl rfl rfl rfl rfl rfl rfl ?_
        refine g_iinc (pc' := 59) (ls1 := [some (.ref 51), some (.ref 19), some (.ref 66), some (.int a3), some (.int (x1 + (1 : Int32)))]) hc rfl rfl zki_1 (zlt rfl) rfl rfl ?_
        refine g_goto hc rfl ?_
        replace h := zwp_l h
        exact h
    · replace h := zwp_f h hx
      refine g_iload_n (pc' := 23)  hc rfl rfl rfl ?_
      refine g_if_ne (pc' := 26) hc rfl rfl (fun hx => ?_) (fun hx => ?_)
      · replace h := zwp_f h hx
        refine g_aload_n (pc' := 38)  hc rfl rfl rfl rfl ?_
        refine g_aload_n (pc' := 39)  hc rfl rfl rfl rfl ?_
        refine g_aload_n (pc' := 40)  hc rfl rfl rfl rfl ?_
        refine g_iload (pc' := 42)  hc rfl rfl rfl ?_
        refine z_virt (as := [.ref 19, .ref 66, .int x1]) (a := 51) (r := []) hc rfl rfl rfl rfl sh_51 rfl zco_16 rfl rfl rfl ?_
        refine ok_X2_wantsToGo_51_19_66 (zdp hd rfl) (zwp_mono (zwp_bind h) ?_)
        rintro ⟨r23, o21, o22⟩ h
        refine z_po (pc' := 45) (st' := [.int r23]) (v := (some (.int r23))) (L' := [(26, none, o21), (29, none, x3), (52, none, o22), (66, some 0, fun _ => (I 66 0)), (67, none, x4), (68, none, x5), (69, none, (I 69))]) (K' := []) zco_16 rfl rfl rfl rfl rfl rfl rfl rfl ?_
        refine g_if_eq (pc' := 48) hc rfl rfl (fun hx => ?_) (fun hx => ?_)
        · replace h := zwp_t h hx
          refine g_iinc (pc' := 59) (ls1 := [some (.ref 51), some (.ref 19), some (.ref 66), some (.int a3), some (.int (x1 + (1 : Int32)))]) hc rfl rfl zki_1 (zlt rfl) rfl rfl ?_
          refine g_goto hc rfl ?_
          replace h := zwp_l h
          exact h
        · replace h := zwp_f h hx
          refine g_aload_n (pc' := 49)  hc rfl rfl rfl rfl ?_
          refine g_aload_n (pc' := 50)  hc rfl rfl rfl rfl ?_
          refine g_aload_n (pc' := 51)  hc rfl rfl rfl rfl ?_
          refine g_iload (pc' := 53)  hc rfl rfl rfl ?_
          refine z_virt (as := [.ref 19, .ref 66, .int x1]) (a := 51) (r := []) hc rfl rfl rfl rfl sh_51 rfl zco_17 rfl rfl rfl ?_
          refine ok_X2_go_51_19_66 (zdp hd rfl) (zwp_mono (zwp_bind h) ?_)
          rintro o24 h
          refine z_po (pc' := 56) (st' := []) (v := none) (L' := [(26, none, o21), (29, none, x3), (52, none, o22), (66, some 0, fun _ => (I 66 0)), (67, none, o24), (68, none, x5), (69, none, (I 69))]) (K' := []) zco_17 rfl rfl rfl rfl rfl rfl rfl rfl ?_
          refine g_iinc (pc' := 59) (ls1 := [some (.ref 51), some (.ref 19), some (.ref 66), some (.int a3), some (.int (x1 + (1 : Int32)))]) hc rfl rfl zki_1 (zlt rfl) rfl rfl ?_
          refine g_goto hc rfl ?_
          replace h := zwp_l h
          exact h
      · replace h := zwp_t h hx
        refine g_aload_n (pc' := 27)  hc rfl rfl rfl rfl ?_
        refine g_aload_n (pc' := 28)  hc rfl rfl rfl rfl ?_
        refine g_aload_n (pc' := 29)  hc rfl rfl rfl rfl ?_
        refine g_iload (pc' := 31)  hc rfl rfl rfl ?_
        refine z_virt (as := [.ref 19, .ref 66, .int x1]) (a := 51) (r := []) hc rfl rfl rfl rfl sh_51 rfl zco_15 rfl rfl rfl ?_
        refine ok_X2_hurt_51_19_66 (zdp hd rfl) (zwp_mono (zwp_bind h) ?_)
        rintro ⟨o25, o26, o27⟩ h
        refine z_po (pc' := 34) (st' := []) (v := none) (L' := [(26, none, x2), (29, none, o25), (52, none, o27), (66, some 0, fun _ => (I 66 0)), (67, none, x4), (68, none, o26), (69, none, (I 69))]) (K' := []) zco_15 rfl rfl rfl rfl rfl rfl rfl rfl ?_
        refine g_goto hc rfl ?_
        refine g_iinc (pc' := 59) (ls1 := [some (.ref 51), some (.ref 19), some (.ref 66), some (.int a3), some (.int (x1 + (1 : Int32)))]) hc rfl rfl zki_1 (zlt rfl) rfl rfl ?_
        refine g_goto hc rfl ?_
        replace h := zwp_l h
        exact h
set_option maxRecDepth 4000 in
theorem ok_X1_holdsAll_65_19_66_36_51 {p q : Nat} {I : pI} {J : pJ} {Q : pQ} {d : Nat} (hd : 5 ≤ d) (h : zwp (f_X1_holdsAll (I 39) (I 38) (I 40) (I 36 3) (I 52) (I 19 12) (I 19 3) (I 27) (I 25 2) (I 26) (I 19 1) (I 30) (I 28 2) (I 29) (I 24) (I 19 9) (I 21) (I 22) (I 19 0) (I 67) (I 66 3) (I 69) (I 66 0) (I 70) (I 68) (J 66 2)) (fun w => match w with | (r, o0, o1, o2, o3, o4, o5, o6) => Q (.inl (some (.int r))) (zS p q I [(26, none, o1), (29, none, o2), (52, none, o0), (66, some 0, fun _ => o5), (67, none, o3), (68, none, o6), (69, none, o4)] J []))) : pm_call M cost zext d 10 [.ref 65, .ref 19, .ref 66, .ref 36, .ref 51] (pm_st 108 (shp p q) I J) Q := by
  obtain ⟨d, rfl⟩ := zd1 hd rfl
  have hc := pm_call_m (M := M) (cost := cost) zext_m d
  refine z_in (L := [(26, none, (I 26)), (29, none, (I 29)), (52, none, (I 52)), (66, some 0, fun _ => (I 66 0)), (67, none, (I 67)), (68, none, (I 68)), (69, none, (I 69))]) (K := []) (ls := [some (.ref 65), some (.ref 19), some (.ref 66), some (.ref 36), some (.ref 51), none]) zmt_10 zco_10 rfl rfl (zid_a (zid_a (zid_a (zid_s (zid_a (zid_a (zid_a zid_n))))))) zid_n ?_
  delta f_X1_holdsAll at h
  refine g_iconst (pc' := 1) (v := (0 : Int32)) hc rfl zki_0 rfl ?_
  refine g_istore (pc' := 3) (ls1 := [some (.ref 65), some (.ref 19), some (.ref 66), some (.ref 36), some (.ref 51), some (.int (0 : Int32))]) hc rfl (zlt rfl) rfl rfl ?_
  refine zjs (G := (fun (g : (Nat → Int32) × (Nat → Int32) × (Nat → Int32) × (Nat → Int32) × (Nat → Int32) × Int32 × (Nat → Int32)) => match g with | (y10, y11, y12, y13, y14, y15, y16) => ∀ z9 : Option Value, znl z9 = true → pm_ev C_X1_holdsAll (d + 1) (pm_call M cost zext d) cost (false, false) 108 0 0 Q 43 [some (.ref 65), some (.ref 19), some (.ref 66), some (.ref 36), some (.ref 51), z9] [] 0 0 (zS p q I [(26, none, y11), (29, none, y12), (52, none, y10), (66, some 0, fun _ => y15), (67, none, y13), (68, none, y16), (69, none, y14)] J []))) h ?_ (fun h => ?_)
  · rintro ⟨y10, y11, y12, y13, y14, y15, y16⟩ h z9 hz9
    refine g_iconst (pc' := 44) (v := (1 : Int32)) hc rfl zki_1 rfl ?_
    replace h := zws h
    exact g_ireturn hc rfl rfl rfl (fun _ => ⟨rfl, rfl⟩) h
  refine zitr_ev (G := (fun (g : Int32 × (Nat → Int32) × (Nat → Int32) × (Nat → Int32) × (Nat → Int32) × (Nat → Int32) × Int32 × (Nat → Int32)) => match g with | (x1, x2, x3, x4, x5, x6, x7, x8) => pm_ev C_X1_holdsAll (d + 1) (pm_call M cost zext d) cost (false, false) 108 0 0 Q 3 [some (.ref 65), some (.ref 19), some (.ref 66), some (.ref 36), some (.ref 51), some (.int x1)] [] 0 0 (zS p q I [(26, none, x3), (29, none, x4), (52, none, x2), (66, some 0, fun _ => x7), (67, none, x5), (68, none, x8), (69, none, x6)] J []))) ?_ zFU ((0 : Int32), (I 52), (I 26), (I 29), (I 67), (I 69), (I 66 0), (I 68)) h
  rintro ⟨x1, x2, x3, x4, x5, x6, x7, x8⟩ h
  refine g_iload (pc' := 5)  hc rfl rfl rfl ?_
  refine g_bipush (pc' := 7) (v := (20 : Int32)) hc rfl zkb_20 rfl ?_
  refine g_icmp_gt (pc' := 10) hc rfl rfl (fun hx => ?_) (fun hx => ?_)
  · replace h := zwp_t h hx
    replace h := zwp_r h
    exact h (some (.int x1)) rfl
  · replace h := zwp_f h hx
    refine g_aload_n (pc' := 11)  hc rfl rfl rfl rfl ?_
    refine g_aload_n (pc' := 12)  hc rfl rfl rfl rfl ?_
    refine g_iload (pc' := 14)  hc rfl rfl rfl ?_
    refine z_virt (as := [.ref 66, .int x1]) (a := 36) (r := []) hc rfl rfl rfl rfl sh_36 rfl zco_7 rfl rfl rfl ?_
    refine ok_X0_agrees_36_66 (zdp hd rfl) (zwp_mono (zwp_bind h) ?_)
    rintro r17 h
    refine z_po (pc' := 17) (st' := [.int r17]) (v := (some (.int r17))) (L' := [(26, none, x3), (29, none, x4), (52, none, x2), (66, some 0, fun _ => x7), (67, none, x5), (68, none, x8), (69, none, x6)]) (K' := []) zco_7 rfl rfl rfl rfl rfl rfl rfl rfl ?_
    refine g_if_ne (pc' := 20) hc rfl rfl (fun hx => ?_) (fun hx => ?_)
    · replace h := zwp_f h hx
      refine g_aload (pc' := 24)  hc rfl rfl rfl rfl ?_
      refine g_aload_n (pc' := 25)  hc rfl rfl rfl rfl ?_
      refine g_aload_n (pc' := 26)  hc rfl rfl rfl rfl ?_
      refine g_aload_n (pc' := 27)  hc rfl rfl rfl rfl ?_
      refine g_aload_n (pc' := 28)  hc rfl rfl rfl rfl ?_
      refine z_getI (pc' := 31) (v := x7) hc rfl rfl rfl sh_66 rfl rfl rfl ?_
      refine z_virt (as := [.int x7]) (a := 19) (r := [.ref 66, .ref 19, .ref 51]) hc rfl rfl rfl rfl sh_19 rfl zco_23 rfl rfl rfl ?_
      refine ok_X3_isDull_19 (zdp hd rfl) (zwp_mono (zwp_bind h) ?_)
      rintro r18 h
      refine z_po (pc' := 34) (st' := [.int r18, .ref 66, .ref 19, .ref 51]) (v := (some (.int r18))) (L' := [(26, none, x3), (29, none, x4), (52, none, x2), (66, some 0, fun _ => x7), (67, none, x5), (68, none, x8), (69, none, x6)]) (K' := []) zco_23 rfl rfl rfl rfl rfl rfl rfl rfl ?_
      refine z_virt (as := [.ref 19, .ref 66, .int r18]) (a := 51) (r := []) hc rfl rfl rfl rfl sh_51 rfl zco_14 rfl rfl rfl ?_
      refine ok_X2_passHour_51_19_66 (zdp hd rfl) (zwp_mono (zwp_bind h) ?_)
      rintro ⟨o19, o20, o21, o22, o23, o24, o25⟩ h
      refine z_po (pc' := 37) (st' := []) (v := none) (L' := [(26, none, o19), (29, none, o20), (52, none, o25), (66, some 0, fun _ => o23), (67, none, o21), (68, none, o24), (69, none, o22)]) (K' := []) zco_14 rfl rfl rfl rfl rfl rfl rfl rfl ?_
      refine g_iinc (pc' := 40) (ls1 := [some (.ref 65), some (.ref 19), some (.ref 66), some (.ref 36), some (.ref 51), some (.int (x1 + (1 : Int32)))]) hc rfl rfl zki_1 (zlt rfl) rfl rfl ?_
      refine g_goto hc rfl ?_
      replace h := zwp_l h
      exact h
    · replace h := zwp_t h hx
      refine g_iconst (pc' := 21) (v := (0 : Int32)) hc rfl zki_0 rfl ?_
      replace h := zws h
      exact g_ireturn hc rfl rfl rfl (fun _ => ⟨rfl, rfl⟩) h
set_option maxRecDepth 4000 in
theorem ok_X2_passHours_51_19_66 {p q : Nat} {I : pI} {J : pJ} {a3 : Int32} {Q : pQ} {d : Nat} (hd : 5 ≤ d) (h : zwp (f_X2_passHours a3 (I 19 12) (I 19 3) (I 27) (I 25 2) (I 26) (I 19 1) (I 30) (I 28 2) (I 29) (I 24) (I 19 9) (I 21) (I 22) (I 19 0) (I 67) (I 66 3) (I 69) (I 66 0) (I 70) (I 68) (J 66 2) (I 52)) (fun w => match w with | (o0, o1, o2, o3, o4, o5, o6) => Q (.inl none) (zS p q I [(26, none, o0), (29, none, o1), (52, none, o6), (66, some 0, fun _ => o4), (67, none, o2), (68, none, o5), (69, none, o3)] J []))) : pm_call M cost zext d 13 [.ref 51, .ref 19, .ref 66, .int a3] (pm_st 108 (shp p q) I J) Q := by
  obtain ⟨d, rfl⟩ := zd1 hd rfl
  have hc := pm_call_m (M := M) (cost := cost) zext_m d
  refine z_in (L := [(26, none, (I 26)), (29, none, (I 29)), (52, none, (I 52)), (66, some 0, fun _ => (I 66 0)), (67, none, (I 67)), (68, none, (I 68)), (69, none, (I 69))]) (K := []) (ls := [some (.ref 51), some (.ref 19), some (.ref 66), some (.int a3), none]) zmt_13 zco_13 rfl rfl (zid_a (zid_a (zid_a (zid_s (zid_a (zid_a (zid_a zid_n))))))) zid_n ?_
  delta f_X2_passHours at h
  refine g_iconst (pc' := 1) (v := (0 : Int32)) hc rfl zki_0 rfl ?_
  refine g_istore (pc' := 3) (ls1 := [some (.ref 51), some (.ref 19), some (.ref 66), some (.int a3), some (.int (0 : Int32))]) hc rfl (zlt rfl) rfl rfl ?_
  refine zjn (G := (fun (g : (Nat → Int32) × (Nat → Int32) × (Nat → Int32) × (Nat → Int32) × Int32 × (Nat → Int32) × (Nat → Int32)) => match g with | (y10, y11, y12, y13, y14, y15, y16) => ∀ z9 : Option Value, znl z9 = true → pm_ev C_X2_passHours (d + 1) (pm_call M cost zext d) cost (false, false) 108 0 0 Q 29 [some (.ref 51), some (.ref 19), some (.ref 66), some (.int a3), z9] [] 0 0 (zS p q I [(26, none, y10), (29, none, y11), (52, none, y16), (66, some 0, fun _ => y14), (67, none, y12), (68, none, y15), (69, none, y13)] J []))) (zwp_bind h) ?_ (fun h => ?_)
  · rintro ⟨y10, y11, y12, y13, y14, y15, y16⟩ h z9 hz9
    replace h := zws h
    exact g_return hc rfl rfl (fun _ => ⟨rfl, rfl⟩) h
  refine zitr_ev (G := (fun (g : Int32 × (Nat → Int32) × (Nat → Int32) × (Nat → Int32) × (Nat → Int32) × Int32 × (Nat → Int32) × (Nat → Int32)) => match g with | (x1, x2, x3, x4, x5, x6, x7, x8) => pm_ev C_X2_passHours (d + 1) (pm_call M cost zext d) cost (false, false) 108 0 0 Q 3 [some (.ref 51), some (.ref 19), some (.ref 66), some (.int a3), some (.int x1)] [] 0 0 (zS p q I [(26, none, x2), (29, none, x3), (52, none, x8), (66, some 0, fun _ => x6), (67, none, x4), (68, none, x7), (69, none, x5)] J []))) ?_ zFU ((0 : Int32), (I 26), (I 29), (I 67), (I 69), (I 66 0), (I 68), (I 52)) h
  rintro ⟨x1, x2, x3, x4, x5, x6, x7, x8⟩ h
  refine g_iload (pc' := 5)  hc rfl rfl rfl ?_
  refine g_iload_n (pc' := 6)  hc rfl rfl rfl ?_
  refine g_icmp_ge (pc' := 9) hc rfl rfl (fun hx => ?_) (fun hx => ?_)
  · replace h := zwp_t h hx
    replace h := zwp_r h
    exact h (some (.int x1)) rfl
  · replace h := zwp_f h hx
    refine g_aload_n (pc' := 10)  hc rfl rfl rfl rfl ?_
    refine g_aload_n (pc' := 11)  hc rfl rfl rfl rfl ?_
    refine g_aload_n (pc' := 12)  hc rfl rfl rfl rfl ?_
    refine g_aload_n (pc' := 13)  hc rfl rfl rfl rfl ?_
    refine g_aload_n (pc' := 14)  hc rfl rfl rfl rfl ?_
    refine z_getI (pc' := 17) (v := x6) hc rfl rfl rfl sh_66 rfl rfl rfl ?_
    refine z_virt (as := [.int x6]) (a := 19) (r := [.ref 66, .ref 19, .ref 51]) hc rfl rfl rfl rfl sh_19 rfl zco_23 rfl rfl rfl ?_
    refine ok_X3_isDull_19 (zdp hd rfl) (zwp_mono (zwp_bind h) ?_)
    rintro r17 h
    refine z_po (pc' := 20) (st' := [.int r17, .ref 66, .ref 19, .ref 51]) (v := (some (.int r17))) (L' := [(26, none, x2), (29, none, x3), (52, none, x8), (66, some 0, fun _ => x6), (67, none, x4), (68, none, x7), (69, none, x5)]) (K' := []) zco_23 rfl rfl rfl rfl rfl rfl rfl rfl ?_
    refine z_virt (as := [.ref 19, .ref 66, .int r17]) (a := 51) (r := []) hc rfl rfl rfl rfl sh_51 rfl zco_14 rfl rfl rfl ?_
    refine ok_X2_passHour_51_19_66 (zdp hd rfl) (zwp_mono (zwp_bind h) ?_)
    rintro ⟨o18, o19, o20, o21, o22, o23, o24⟩ h
    refine z_po (pc' := 23) (st' := []) (v := none) (L' := [(26, none, o18), (29, none, o19), (52, none, o24), (66, some 0, fun _ => o22), (67, none, o20), (68, none, o23), (69, none, o21)]) (K' := []) zco_14 rfl rfl rfl rfl rfl rfl rfl rfl ?_
    refine g_iinc (pc' := 26) (ls1 := [some (.ref 51), some (.ref 19), some (.ref 66), some (.int a3), some (.int (x1 + (1 : Int32)))]) hc rfl rfl zki_1 (zlt rfl) rfl rfl ?_
    refine g_goto hc rfl ?_
    replace h := zwp_l h
    exact h
set_option maxRecDepth 4000 in
theorem ok_X1_addPlaces_65_19_51 {p q : Nat} {I : pI} {J : pJ} {Q : pQ} {d : Nat} (hd : 6 ≤ d) (h : zwp (f_X1_addPlaces (I 52) (J 71) (I 19 12) (I 19 3) (I 27) (I 25 2) (I 26) (I 19 1) (I 30) (I 28 2) (I 29) (I 24) (I 19 9) (I 21) (I 22) (I 19 0) (I 67) (I 66 3) (I 69) (I 66 0) (I 70) (I 68) (J 66 2)) (fun w => match w with | (o0, o1, o2, o3, o4, o5, o6, o7) => Q (.inl none) (zS p q I [(26, none, o2), (29, none, o3), (52, none, o0), (66, some 0, fun _ => o6), (67, none, o4), (68, none, o7), (69, none, o5)] J [(71, none, o1)]))) : pm_call M cost zext d 11 [.ref 65, .ref 19, .ref 51] (pm_st 108 (shp p q) I J) Q := by
  obtain ⟨d, rfl⟩ := zd1 hd rfl
  have hc := pm_call_m (M := M) (cost := cost) zext_m d
  refine z_in (L := [(26, none, (I 26)), (29, none, (I 29)), (52, none, (I 52)), (66, some 0, fun _ => (I 66 0)), (67, none, (I 67)), (68, none, (I 68)), (69, none, (I 69))]) (K := [(71, none, (J 71))]) (ls := [some (.ref 65), some (.ref 19), some (.ref 51), none]) zmt_11 zco_11 rfl rfl (zid_a (zid_a (zid_a (zid_s (zid_a (zid_a (zid_a zid_n))))))) (zid_a zid_n) ?_
  delta f_X1_addPlaces at h
  refine g_aload_n (pc' := 1)  hc rfl rfl rfl rfl ?_
  refine g_aload_n (pc' := 2)  hc rfl rfl rfl rfl ?_
  refine g_aload_n (pc' := 3)  hc rfl rfl rfl rfl ?_
  refine z_getR (pc' := 6)  hc rfl rfl rfl sh_65 rfl rfl ?_
  refine g_iconst (pc' := 7) (v := (5 : Int32)) hc rfl zki_5 rfl ?_
  refine z_virt (as := [.ref 19, .ref 66, .int (5 : Int32)]) (a := 51) (r := []) hc rfl rfl rfl rfl sh_51 rfl zco_13 rfl rfl rfl ?_
  refine ok_X2_passHours_51_19_66 (zdp hd rfl) (zwp_mono (zwp_bind h) ?_)
  rintro ⟨o1, o2, o3, o4, o5, o6, o7⟩ h
  refine z_po (pc' := 10) (st' := []) (v := none) (L' := [(26, none, o1), (29, none, o2), (52, none, o7), (66, some 0, fun _ => o5), (67, none, o3), (68, none, o6), (69, none, o4)]) (K' := [(71, none, (J 71))]) zco_13 rfl rfl rfl rfl rfl rfl rfl rfl ?_
  refine g_iconst (pc' := 11) (v := (0 : Int32)) hc rfl zki_0 rfl ?_
  refine g_istore_n (pc' := 12) (ls1 := [some (.ref 65), some (.ref 19), some (.ref 51), some (.int (0 : Int32))]) hc rfl (zlt rfl) rfl rfl ?_
  refine zjn (G := (fun (y11 : (Nat → Int64)) => ∀ z10 : Option Value, znl z10 = true → pm_ev C_X1_addPlaces (d + 1) (pm_call M cost zext d) cost (false, false) 108 0 0 Q 50 [some (.ref 65), some (.ref 19), some (.ref 51), z10] [] 0 0 (zS p q I [(26, none, o1), (29, none, o2), (52, none, o7), (66, some 0, fun _ => o5), (67, none, o3), (68, none, o6), (69, none, o4)] J [(71, none, y11)]))) (zwp_bind h) ?_ (fun h => ?_)
  · rintro y11 h z10 hz10
    replace h := zws h
    exact g_return hc rfl rfl (fun _ => ⟨rfl, rfl⟩) h
  refine zitr_ev (G := (fun (g : Int32 × (Nat → Int64)) => match g with | (x8, x9) => pm_ev C_X1_addPlaces (d + 1) (pm_call M cost zext d) cost (false, false) 108 0 0 Q 12 [some (.ref 65), some (.ref 19), some (.ref 51), some (.int x8)] [] 0 0 (zS p q I [(26, none, o1), (29, none, o2), (52, none, o7), (66, some 0, fun _ => o5), (67, none, o3), (68, none, o6), (69, none, o4)] J [(71, none, x9)]))) ?_ zFU ((0 : Int32), (J 71)) h
  rintro ⟨x8, x9⟩ h
  refine g_iload_n (pc' := 13)  hc rfl rfl rfl ?_
  refine g_aload_n (pc' := 14)  hc rfl rfl rfl rfl ?_
  refine z_getI (pc' := 17) (v := (I 19 3)) hc rfl rfl rfl sh_19 rfl rfl rfl ?_
  refine g_icmp_ge (pc' := 20) hc rfl rfl (fun hx => ?_) (fun hx => ?_)
  · replace h := zwp_t h hx
    replace h := zwp_r h
    exact h (some (.int x8)) rfl
  · replace h := zwp_f h hx
    refine g_aload_n (pc' := 21)  hc rfl rfl rfl rfl ?_
    refine z_getR (pc' := 24)  hc rfl rfl rfl sh_65 rfl rfl ?_
    refine g_iload_n (pc' := 25)  hc rfl rfl rfl ?_
    refine g_aload_n (pc' := 26)  hc rfl rfl rfl rfl ?_
    refine z_getR (pc' := 29)  hc rfl rfl rfl sh_65 rfl rfl ?_
    refine g_iload_n (pc' := 30)  hc rfl rfl rfl ?_
    have hb := (zwp_bnd h).1
    replace h := (zwp_bnd h).2
    refine z_laload (pc' := 31) (v := (x9 x8.toNatClampNeg)) hc rfl rfl sh_71 hb rfl rfl ?_
    refine g_lconst (pc' := 32) (v := (1 : Int64)) hc rfl zkl_1 rfl ?_
    refine g_aload_n (pc' := 33)  hc rfl rfl rfl rfl ?_
    refine z_getR (pc' := 36)  hc rfl rfl rfl sh_65 rfl rfl ?_
    refine z_getR (pc' := 39)  hc rfl rfl rfl sh_66 rfl rfl ?_
    refine g_iload_n (pc' := 40)  hc rfl rfl rfl ?_
    have hb := (zwp_bnd h).1
    replace h := (zwp_bnd h).2
    refine z_iaload (pc' := 41) (v := (o3 x8.toNatClampNeg)) hc rfl rfl sh_67 hb rfl rfl ?_
    refine g_lshl (pc' := 42)  hc rfl rfl ?_
    refine g_lor (pc' := 43)  hc rfl rfl ?_
    have hb := (zwp_bnd h).1
    replace h := (zwp_bnd h).2
    refine z_lastore (pc' := 44) (g := x9) (K' := [(71, none, (vp_updL x9 x8.toNatClampNeg ((x9 x8.toNatClampNeg) ||| ((1 : Int64) <<< ((o3 x8.toNatClampNeg).toInt64 &&& 63)))))]) hc rfl rfl sh_71 hb rfl rfl rfl rfl ?_
    refine g_iinc (pc' := 47) (ls1 := [some (.ref 65), some (.ref 19), some (.ref 51), some (.int (x8 + (1 : Int32)))]) hc rfl rfl zki_1 (zlt rfl) rfl rfl ?_
    refine g_goto hc rfl ?_
    replace h := zwp_l h
    exact h
set_option maxRecDepth 4000 in
theorem ok_X1_search_65_19_31_36_51 {p q : Nat} {I : pI} {J : pJ} {Q : pQ} {d : Nat} (hd : 7 ≤ d) (h : zwp (f_X1_search (I 39) (I 38) (I 40) (I 36 3) (I 65 3) (I 65 2) (I 52) (J 71) (I 19 12) (I 19 3) (I 27) (I 25 2) (I 26) (I 19 1) (I 30) (I 28 2) (I 29) (I 24) (I 19 9) (I 21) (I 22) (I 19 0) (I 32) (I 31 3) (I 34) (I 31 0) (I 35) (I 31 1) (I 33) (J 31 2) (I 67) (I 66 3) (I 69) (I 66 0) (I 70) (I 66 1) (I 68) (J 66 2)) (fun w => match w with | (o0, o1, o2, o3, o4, o5, o6, o7, o8, o9, o10, o11, o12, o13) => Q (.inl none) (zS p q I [(26, none, o4), (29, none, o5), (52, none, o2), (65, some 2, fun _ => o1), (65, some 3, fun _ => o0), (66, some 0, fun _ => o9), (66, some 1, fun _ => o11), (66, some 3, fun _ => o7), (67, none, o6), (68, none, o12), (69, none, o8), (70, none, o10)] J [(66, some 2, fun _ => o13), (71, none, o3)]))) : pm_call M cost zext d 9 [.ref 65, .ref 19, .ref 31, .ref 36, .ref 51] (pm_st 108 (shp p q) I J) Q := by
  obtain ⟨d, rfl⟩ := zd1 hd rfl
  have hc := pm_call_m (M := M) (cost := cost) zext_m d
  refine z_in (L := [(26, none, (I 26)), (29, none, (I 29)), (52, none, (I 52)), (65, some 2, fun _ => (I 65 2)), (65, some 3, fun _ => (I 65 3)), (66, some 0, fun _ => (I 66 0)), (66, some 1, fun _ => (I 66 1)), (66, some 3, fun _ => (I 66 3)), (67, none, (I 67)), (68, none, (I 68)), (69, none, (I 69)), (70, none, (I 70))]) (K := [(66, some 2, fun _ => (J 66 2)), (71, none, (J 71))]) (ls := [some (.ref 65), some (.ref 19), some (.ref 31), some (.ref 36), some (.ref 51), none, none]) zmt_9 zco_9 rfl rfl (zid_a (zid_a (zid_a (zid_s (zid_s (zid_s (zid_s (zid_s (zid_a (zid_a (zid_a (zid_a zid_n)))))))))))) (zid_s (zid_a zid_n)) ?_
  delta f_X1_search at h
  refine g_aload_n (pc' := 1)  hc rfl rfl rfl rfl ?_
  refine g_iconst (pc' := 2) (v := (0 : Int32)) hc rfl zki_0 rfl ?_
  refine z_putI (pc' := 5) (L' := [(26, none, (I 26)), (29, none, (I 29)), (52, none, (I 52)), (65, some 2, fun _ => (0 : Int32)), (65, some 3, fun _ => (I 65 3)), (66, some 0, fun _ => (I 66 0)), (66, some 1, fun _ => (I 66 1)), (66, some 3, fun _ => (I 66 3)), (67, none, (I 67)), (68, none, (I 68)), (69, none, (I 69)), (70, none, (I 70))]) hc rfl rfl rfl sh_65 rfl zft_1_2 rfl (fun h => Bool.noConfusion h) rfl rfl rfl ?_
  refine g_aload_n (pc' := 6)  hc rfl rfl rfl rfl ?_
  refine g_iconst (pc' := 7) (v := (-1 : Int32)) hc rfl zki_m1 rfl ?_
  refine z_putI (pc' := 10) (L' := [(26, none, (I 26)), (29, none, (I 29)), (52, none, (I 52)), (65, some 2, fun _ => (0 : Int32)), (65, some 3, fun _ => (-1 : Int32)), (66, some 0, fun _ => (I 66 0)), (66, some 1, fun _ => (I 66 1)), (66, some 3, fun _ => (I 66 3)), (67, none, (I 67)), (68, none, (I 68)), (69, none, (I 69)), (70, none, (I 70))]) hc rfl rfl rfl sh_65 rfl zft_1_3 rfl (fun h => Bool.noConfusion h) rfl rfl rfl ?_
  refine g_aload_n (pc' := 11)  hc rfl rfl rfl rfl ?_
  refine z_getR (pc' := 14)  hc rfl rfl rfl sh_65 rfl rfl ?_
  refine g_lconst (pc' := 15) (v := (0 : Int64)) hc rfl zkl_0 rfl ?_
  refine z_stat (as := [.ref 71, .long (0 : Int64)]) (r := []) hc rfl rfl rfl rfl zco_267 rfl rfl rfl ?_
  refine ok_J7_fill_d0a16_71 (zdp hd rfl) (zwp_mono (zwp_bind h) ?_)
  rintro o1 h
  refine z_po (pc' := 18) (st' := []) (v := none) (L' := [(26, none, (I 26)), (29, none, (I 29)), (52, none, (I 52)), (65, some 2, fun _ => (0 : Int32)), (65, some 3, fun _ => (-1 : Int32)), (66, some 0, fun _ => (I 66 0)), (66, some 1, fun _ => (I 66 1)), (66, some 3, fun _ => (I 66 3)), (67, none, (I 67)), (68, none, (I 68)), (69, none, (I 69)), (70, none, (I 70))]) (K' := [(66, some 2, fun _ => (J 66 2)), (71, none, o1)]) zco_267 rfl rfl rfl rfl rfl rfl rfl rfl ?_
  refine g_iconst (pc' := 19) (v := (0 : Int32)) hc rfl zki_0 rfl ?_
  refine g_istore (pc' := 21) (ls1 := [some (.ref 65), some (.ref 19), some (.ref 31), some (.ref 36), some (.ref 51), some (.int (0 : Int32)), none]) hc rfl (zlt rfl) rfl rfl ?_
  refine zjn (G := (fun (g : Int32 × Int32 × (Nat → Int32) × (Nat → Int64) × (Nat → Int32) × (Nat → Int32) × (Nat → Int32) × Int32 × (Nat → Int32) × Int32 × (Nat → Int32) × Int32 × (Nat → Int32) × Int64) => match g with | (y20, y21, y22, y23, y24, y25, y26, y27, y28, y29, y30, y31, y32, y33) => ∀ z18 : Option Value, znl z18 = true → ∀ z19 : Option Value, znl z19 = true → pm_ev C_X1_search (d + 1) (pm_call M cost zext d) cost (false, false) 108 0 0 Q 170 [some (.ref 65), some (.ref 19), some (.ref 31), some (.ref 36), some (.ref 51), z18, z19] [] 0 0 (zS p q I [(26, none, y24), (29, none, y25), (52, none, y22), (65, some 2, fun _ => y21), (65, some 3, fun _ => y20), (66, some 0, fun _ => y29), (66, some 1, fun _ => y31), (66, some 3, fun _ => y27), (67, none, y26), (68, none, y32), (69, none, y28), (70, none, y30)] J [(66, some 2, fun _ => y33), (71, none, y23)]))) (zwp_bind h) ?_ (fun h => ?_)
  · rintro ⟨y20, y21, y22, y23, y24, y25, y26, y27, y28, y29, y30, y31, y32, y33⟩ h z18 hz18 z19 hz19
    replace h := zws h
    exact g_return hc rfl rfl (fun _ => ⟨rfl, rfl⟩) h
  refine zitr_ev (G := (fun (g : Int32 × Int32 × Int32 × (Nat → Int32) × (Nat → Int64) × (Nat → Int32) × (Nat → Int32) × (Nat → Int32) × Int32 × (Nat → Int32) × Int32 × (Nat → Int32) × Int32 × (Nat → Int32) × Int64) => match g with | (x2, x4, x5, x6, x7, x8, x9, x10, x11, x12, x13, x14, x15, x16, x17) => ∀ z3 : Option Value, znl z3 = true → pm_ev C_X1_search (d + 1) (pm_call M cost zext d) cost (false, false) 108 0 0 Q 21 [some (.ref 65), some (.ref 19), some (.ref 31), some (.ref 36), some (.ref 51), some (.int x2), z3] [] 0 0 (zS p q I [(26, none, x8), (29, none, x9), (52, none, x6), (65, some 2, fun _ => x5), (65, some 3, fun _ => x4), (66, some 0, fun _ => x13), (66, some 1, fun _ => x15), (66, some 3, fun _ => x11), (67, none, x10), (68, none, x16), (69, none, x12), (70, none, x14)] J [(66, some 2, fun _ => x17), (71, none, x7)]))) ?_ zFU ((0 : Int32), (-1 : Int32), (0 : Int32), (I 52), o1, (I 26), (I 29), (I 67), (I 66 3), (I 69), (I 66 0), (I 70), (I 66 1), (I 68), (J 66 2)) h none rfl
  rintro ⟨x2, x4, x5, x6, x7, x8, x9, x10, x11, x12, x13, x14, x15, x16, x17⟩ h z3 hz3
  refine g_iload (pc' := 23)  hc rfl rfl rfl ?_
  refine g_aload_n (pc' := 24)  hc rfl rfl rfl rfl ?_
  refine z_getI (pc' := 27) (v := (I 19 3)) hc rfl rfl rfl sh_19 rfl rfl rfl ?_
  refine g_icmp_ge (pc' := 30) hc rfl rfl (fun hx => ?_) (fun hx => ?_)
  · replace h := zwp_t h hx
    replace h := zwp_r h
    exact h (some (.int x2)) rfl z3 hz3
  · replace h := zwp_f h hx
    refine g_iconst (pc' := 31) (v := (0 : Int32)) hc rfl zki_0 rfl ?_
    refine g_istore (pc' := 33) (ls1 := [some (.ref 65), some (.ref 19), some (.ref 31), some (.ref 36), some (.ref 51), some (.int x2), some (.int (0 : Int32))]) hc rfl (zlt rfl) rfl rfl ?_
    refine zjn (G := (fun (g : Int32 × Int32 × (Nat → Int32) × (Nat → Int64) × (Nat → Int32) × (Nat → Int32) × (Nat → Int32) × Int32 × (Nat → Int32) × Int32 × (Nat → Int32) × Int32 × (Nat → Int32) × Int64) => match g with | (y50, y51, y52, y53, y54, y55, y56, y57, y58, y59, y60, y61, y62, y63) => ∀ z49 : Option Value, znl z49 = true → pm_ev C_X1_search (d + 1) (pm_call M cost zext d) cost (false, false) 108 0 0 Q 164 [some (.ref 65), some (.ref 19), some (.ref 31), some (.ref 36), some (.ref 51), some (.int x2), z49] [] 0 0 (zS p q I [(26, none, y54), (29, none, y55), (52, none, y52), (65, some 2, fun _ => y51), (65, some 3, fun _ => y50), (66, some 0, fun _ => y59), (66, some 1, fun _ => y61), (66, some 3, fun _ => y57), (67, none, y56), (68, none, y62), (69, none, y58), (70, none, y60)] J [(66, some 2, fun _ => y63), (71, none, y53)]))) (zwp_bind h) ?_ (fun h => ?_)
    · rintro ⟨y50, y51, y52, y53, y54, y55, y56, y57, y58, y59, y60, y61, y62, y63⟩ h z49 hz49
      refine g_iinc (pc' := 167) (ls1 := [some (.ref 65), some (.ref 19), some (.ref 31), some (.ref 36), some (.ref 51), some (.int (x2 + (1 : Int32))), z49]) hc rfl rfl zki_1 (zlt rfl) rfl rfl ?_
      refine g_goto hc rfl ?_
      replace h := zwp_l h
      exact h z49 hz49
    refine zitr_ev (G := (fun (g : Int32 × Int32 × Int32 × (Nat → Int32) × (Nat → Int64) × (Nat → Int32) × (Nat → Int32) × (Nat → Int32) × Int32 × (Nat → Int32) × Int32 × (Nat → Int32) × Int32 × (Nat → Int32) × Int64) => match g with | (x34, x35, x36, x37, x38, x39, x40, x41, x42, x43, x44, x45, x46, x47, x48) => pm_ev C_X1_search (d + 1) (pm_call M cost zext d) cost (false, false) 108 0 0 Q 33 [some (.ref 65), some (.ref 19), some (.ref 31), some (.ref 36), some (.ref 51), some (.int x2), some (.int x34)] [] 0 0 (zS p q I [(26, none, x39), (29, none, x40), (52, none, x37), (65, some 2, fun _ => x36), (65, some 3, fun _ => x35), (66, some 0, fun _ => x44), (66, some 1, fun _ => x46), (66, some 3, fun _ => x42), (67, none, x41), (68, none, x47), (69, none, x43), (70, none, x45)] J [(66, some 2, fun _ => x48), (71, none, x38)]))) ?_ zFU ((0 : Int32), x4, x5, x6, x7, x8, x9, x10, x11, x12, x13, x14, x15, x16, x17) h
    rintro ⟨x34, x35, x36, x37, x38, x39, x40, x41, x42, x43, x44, x45, x46, x47, x48⟩ h
    refine g_iload (pc' := 35)  hc rfl rfl rfl ?_
    refine g_aload_n (pc' := 36)  hc rfl rfl rfl rfl ?_
    refine z_getR (pc' := 39)  hc rfl rfl rfl sh_19 rfl rfl ?_
    refine g_iload (pc' := 41)  hc rfl rfl rfl ?_
    have hb := (zwp_bnd h).1
    replace h := (zwp_bnd h).2
    refine z_iaload (pc' := 42) (v := (((I 21)) x2.toNatClampNeg)) hc rfl rfl sh_21 hb rfl rfl ?_
    refine g_icmp_ge (pc' := 45) hc rfl rfl (fun hx => ?_) (fun hx => ?_)
    · replace h := zwp_t h hx
      replace h := zwp_r h
      exact h (some (.int x34)) rfl
    · replace h := zwp_f h hx
      refine g_iload (pc' := 47)  hc rfl rfl rfl ?_
      refine g_aload_n (pc' := 48)  hc rfl rfl rfl rfl ?_
      refine z_getR (pc' := 51)  hc rfl rfl rfl sh_31 rfl rfl ?_
      refine g_iload (pc' := 53)  hc rfl rfl rfl ?_
      have hb := (zwp_bnd h).1
      replace h := (zwp_bnd h).2
      refine z_iaload (pc' := 54) (v := (((I 35)) x2.toNatClampNeg)) hc rfl rfl sh_35 hb rfl rfl ?_
      refine g_icmp_ne (pc' := 57) hc rfl rfl (fun hx => ?_) (fun hx => ?_)
      · replace h := zwp_f h hx
        refine g_aload_n (pc' := 61)  hc rfl rfl rfl rfl ?_
        refine z_getR (pc' := 64)  hc rfl rfl rfl sh_65 rfl rfl ?_
        refine g_aload_n (pc' := 65)  hc rfl rfl rfl rfl ?_
        refine z_virt (as := [.ref 31]) (a := 66) (r := []) hc rfl rfl rfl rfl sh_66 rfl zco_68 rfl rfl rfl ?_
        refine ok_X8_copyFrom_66_31 (zdp hd rfl) (zwp_mono (zwp_bind h) ?_)
        rintro ⟨o64, o65, o66, o67, o68, o69, o70, o71⟩ h
        refine z_po (pc' := 68) (st' := []) (v := none) (L' := [(26, none, x39), (29, none, x40), (52, none, x37), (65, some 2, fun _ => x36), (65, some 3, fun _ => x35), (66, some 0, fun _ => o67), (66, some 1, fun _ => o69), (66, some 3, fun _ => o65), (67, none, o64), (68, none, o70), (69, none, o66), (70, none, o68)]) (K' := [(66, some 2, fun _ => o71), (71, none, x38)]) zco_68 rfl rfl rfl rfl rfl rfl rfl rfl ?_
        refine g_aload_n (pc' := 69)  hc rfl rfl rfl rfl ?_
        refine z_getR (pc' := 72)  hc rfl rfl rfl sh_65 rfl rfl ?_
        refine z_getR (pc' := 75)  hc rfl rfl rfl sh_66 rfl rfl ?_
        refine g_iload (pc' := 77)  hc rfl rfl rfl ?_
        refine g_iload (pc' := 79)  hc rfl rfl rfl ?_
        have hb := (zwp_bnd h).1
        replace h := (zwp_bnd h).2
        refine z_iastore (pc' := 80) (g := o68) (L' := [(26, none, x39), (29, none, x40), (52, none, x37), (65, some 2, fun _ => x36), (65, some 3, fun _ => x35), (66, some 0, fun _ => o67), (66, some 1, fun _ => o69), (66, some 3, fun _ => o65), (67, none, o64), (68, none, o70), (69, none, o66), (70, none, (upd o68 x2.toNatClampNeg x34))]) hc rfl rfl sh_70 hb rfl rfl rfl rfl ?_
        refine g_aload_n (pc' := 81)  hc rfl rfl rfl rfl ?_
        refine g_aload_n (pc' := 82)  hc rfl rfl rfl rfl ?_
        refine g_aload_n (pc' := 83)  hc rfl rfl rfl rfl ?_
        refine z_getR (pc' := 86)  hc rfl rfl rfl sh_65 rfl rfl ?_
        refine g_aload_n (pc' := 87)  hc rfl rfl rfl rfl ?_
        refine g_aload (pc' := 89)  hc rfl rfl rfl rfl ?_
        refine z_virt (as := [.ref 19, .ref 66, .ref 36, .ref 51]) (a := 65) (r := []) hc rfl rfl rfl rfl sh_65 rfl zco_10 rfl rfl rfl ?_
        refine ok_X1_holdsAll_65_19_66_36_51 (zdp hd rfl) (zwp_mono (zwp_bind h) ?_)
        rintro ⟨r79, o72, o73, o74, o75, o76, o77, o78⟩ h
        refine z_po (pc' := 92) (st' := [.int r79]) (v := (some (.int r79))) (L' := [(26, none, o73), (29, none, o74), (52, none, o72), (65, some 2, fun _ => x36), (65, some 3, fun _ => x35), (66, some 0, fun _ => o77), (66, some 1, fun _ => o69), (66, some 3, fun _ => o65), (67, none, o75), (68, none, o78), (69, none, o76), (70, none, (upd o68 x2.toNatClampNeg x34))]) (K' := [(66, some 2, fun _ => o71), (71, none, x38)]) zco_10 rfl rfl rfl rfl rfl rfl rfl rfl ?_
        refine g_if_eq (pc' := 95) hc rfl rfl (fun hx => ?_) (fun hx => ?_)
        · replace h := zwp_t h hx
          refine g_iinc (pc' := 161) (ls1 := [some (.ref 65), some (.ref 19), some (.ref 31), some (.ref 36), some (.ref 51), some (.int x2), some (.int (x34 + (1 : Int32)))]) hc rfl rfl zki_1 (zlt rfl) rfl rfl ?_
          refine g_goto hc rfl ?_
          replace h := zwp_l h
          exact h
        · replace h := zwp_f h hx
          refine g_aload_n (pc' := 96)  hc rfl rfl rfl rfl ?_
          refine g_aload_n (pc' := 97)  hc rfl rfl rfl rfl ?_
          refine z_getI (pc' := 100) (v := x36) hc rfl rfl rfl sh_65 rfl rfl rfl ?_
          refine zjn (G := (fun (j80 : Int32) => pm_ev C_X1_search (d + 1) (pm_call M cost zext d) cost (false, false) 108 0 0 Q 118 [some (.ref 65), some (.ref 19), some (.ref 31), some (.ref 36), some (.ref 51), some (.int x2), some (.int x34)] [.int j80, .ref 65] 0 0 (zS p q I [(26, none, o73), (29, none, o74), (52, none, o72), (65, some 2, fun _ => x36), (65, some 3, fun _ => x35), (66, some 0, fun _ => o77), (66, some 1, fun _ => o69), (66, some 3, fun _ => o65), (67, none, o75), (68, none, o78), (69, none, o76), (70, none, (upd o68 x2.toNatClampNeg x34))] J [(66, some 2, fun _ => o71), (71, none, x38)]))) (zwp_bind h) ?_ (fun h => ?_)
          · rintro j80 h
            refine z_putI (pc' := 121) (L' := [(26, none, o73), (29, none, o74), (52, none, o72), (65, some 2, fun _ => x36), (65, some 3, fun _ => j80), (66, some 0, fun _ => o77), (66, some 1, fun _ => o69), (66, some 3, fun _ => o65), (67, none, o75), (68, none, o78), (69, none, o76), (70, none, (upd o68 x2.toNatClampNeg x34))]) hc rfl rfl rfl sh_65 rfl zft_1_3 rfl (fun h => Bool.noConfusion h) rfl rfl rfl ?_
            refine g_aload_n (pc' := 122)  hc rfl rfl rfl rfl ?_
            refine g_dup (pc' := 123)  hc rfl rfl rfl ?_
            refine z_getI (pc' := 126) (v := x36) hc rfl rfl rfl sh_65 rfl rfl rfl ?_
            refine g_iconst (pc' := 127) (v := (1 : Int32)) hc rfl zki_1 rfl ?_
            refine g_iadd (pc' := 128)  hc rfl rfl ?_
            refine z_putI (pc' := 131) (L' := [(26, none, o73), (29, none, o74), (52, none, o72), (65, some 2, fun _ => (x36 + (1 : Int32))), (65, some 3, fun _ => j80), (66, some 0, fun _ => o77), (66, some 1, fun _ => o69), (66, some 3, fun _ => o65), (67, none, o75), (68, none, o78), (69, none, o76), (70, none, (upd o68 x2.toNatClampNeg x34))]) hc rfl rfl rfl sh_65 rfl zft_1_2 rfl (fun h => Bool.noConfusion h) rfl rfl rfl ?_
            refine g_aload_n (pc' := 132)  hc rfl rfl rfl rfl ?_
            refine z_getR (pc' := 135)  hc rfl rfl rfl sh_65 rfl rfl ?_
            refine g_aload_n (pc' := 136)  hc rfl rfl rfl rfl ?_
            refine z_virt (as := [.ref 31]) (a := 66) (r := []) hc rfl rfl rfl rfl sh_66 rfl zco_68 rfl rfl rfl ?_
            refine ok_X8_copyFrom_66_31 (zdp hd rfl) (zwp_mono (zwp_bind h) ?_)
            rintro ⟨o81, o82, o83, o84, o85, o86, o87, o88⟩ h
            refine z_po (pc' := 139) (st' := []) (v := none) (L' := [(26, none, o73), (29, none, o74), (52, none, o72), (65, some 2, fun _ => (x36 + (1 : Int32))), (65, some 3, fun _ => j80), (66, some 0, fun _ => o84), (66, some 1, fun _ => o86), (66, some 3, fun _ => o82), (67, none, o81), (68, none, o87), (69, none, o83), (70, none, o85)]) (K' := [(66, some 2, fun _ => o88), (71, none, x38)]) zco_68 rfl rfl rfl rfl rfl rfl rfl rfl ?_
            refine g_aload_n (pc' := 140)  hc rfl rfl rfl rfl ?_
            refine z_getR (pc' := 143)  hc rfl rfl rfl sh_65 rfl rfl ?_
            refine z_getR (pc' := 146)  hc rfl rfl rfl sh_66 rfl rfl ?_
            refine g_iload (pc' := 148)  hc rfl rfl rfl ?_
            refine g_iload (pc' := 150)  hc rfl rfl rfl ?_
            have hb := (zwp_bnd h).1
            replace h := (zwp_bnd h).2
            refine z_iastore (pc' := 151) (g := o85) (L' := [(26, none, o73), (29, none, o74), (52, none, o72), (65, some 2, fun _ => (x36 + (1 : Int32))), (65, some 3, fun _ => j80), (66, some 0, fun _ => o84), (66, some 1, fun _ => o86), (66, some 3, fun _ => o82), (67, none, o81), (68, none, o87), (69, none, o83), (70, none, (upd o85 x2.toNatClampNeg x34))]) hc rfl rfl sh_70 hb rfl rfl rfl rfl ?_
            refine g_aload_n (pc' := 152)  hc rfl rfl rfl rfl ?_
            refine g_aload_n (pc' := 153)  hc rfl rfl rfl rfl ?_
            refine g_aload (pc' := 155)  hc rfl rfl rfl rfl ?_
            refine z_virt (as := [.ref 19, .ref 51]) (a := 65) (r := []) hc rfl rfl rfl rfl sh_65 rfl zco_11 rfl rfl rfl ?_
            refine ok_X1_addPlaces_65_19_51 (zdp hd rfl) (zwp_mono (zwp_bind h) ?_)
            rintro ⟨o89, o90, o91, o92, o93, o94, o95, o96⟩ h
            refine z_po (pc' := 158) (st' := []) (v := none) (L' := [(26, none, o91), (29, none, o92), (52, none, o89), (65, some 2, fun _ => (x36 + (1 : Int32))), (65, some 3, fun _ => j80), (66, some 0, fun _ => o95), (66, some 1, fun _ => o86), (66, some 3, fun _ => o82), (67, none, o93), (68, none, o96), (69, none, o94), (70, none, (upd o85 x2.toNatClampNeg x34))]) (K' := [(66, some 2, fun _ => o88), (71, none, o90)]) zco_11 rfl rfl rfl rfl rfl rfl rfl rfl ?_
            refine g_iinc (pc' := 161) (ls1 := [some (.ref 65), some (.ref 19), some (.ref 31), some (.ref 36), some (.ref 51), some (.int x2), some (.int (x34 + (1 : Int32)))]) hc rfl rfl zki_1 (zlt rfl) rfl rfl ?_
            refine g_goto hc rfl ?_
            replace h := zwp_l h
            exact h
          refine g_if_ne (pc' := 103) hc rfl rfl (fun hx => ?_) (fun hx => ?_)
          · replace h := zwp_f h hx
            refine g_aload_n (pc' := 115)  hc rfl rfl rfl rfl ?_
            refine z_getI (pc' := 118) (v := x35) hc rfl rfl rfl sh_65 rfl rfl rfl ?_
            replace h := zws h
            exact h
          · replace h := zwp_t h hx
            refine g_bipush (pc' := 105) (v := (10 : Int32)) hc rfl zkb_10 rfl ?_
            refine g_iload (pc' := 107)  hc rfl rfl rfl ?_
            refine g_imul (pc' := 108)  hc rfl rfl ?_
            refine g_iload (pc' := 110)  hc rfl rfl rfl ?_
            refine g_iadd (pc' := 111)  hc rfl rfl ?_
            refine g_goto hc rfl ?_
            replace h := zws h
            exact h
      · replace h := zwp_t h hx
        refine g_goto hc rfl ?_
        refine g_iinc (pc' := 161) (ls1 := [some (.ref 65), some (.ref 19), some (.ref 31), some (.ref 36), some (.ref 51), some (.int x2), some (.int (x34 + (1 : Int32)))]) hc rfl rfl zki_1 (zlt rfl) rfl rfl ?_
        refine g_goto hc rfl ?_
        replace h := zwp_l h
        exact h
set_option maxHeartbeats 20000000 in
set_option maxRecDepth 4000 in
theorem ok_X11_ahead_0_q {I : pI} {J : pJ} {a1 : Int32} {Q : pQ} {d : Nat} (hd : 8 ≤ d) (h : zwp (f_X11_ahead a1 (I 39) (I 38) (I 40) (I 36 3) (I 54) (I 53 3) (I 56) (I 53 0) (I 57) (I 53 1) (I 55) (J 53 2) (I 65 3) (I 65 2) (J 71) (I 67) (I 66 3) (I 69) (I 66 0) (I 70) (I 66 1) (I 68) (J 66 2) (I 52) (I 32) (I 31 3) (I 34) (I 31 0) (I 35) (I 31 1) (I 33) (J 31 2) (I 19 12) (I 19 3) (I 27) (I 25 2) (I 26) (I 19 1) (I 30) (I 28 2) (I 29) (I 24) (I 19 9) (I 21) (I 22) (I 19 0)) (fun w => match w with | (.inl r, o0, o1, o2, o3, o4, o5, o6, o7, o8, o9, o10, o11, o12, o13, o14, o15, o16, o17, o18, o19, o20, o21) => Q (.inl (some (.int r))) (zS 19 7 I [(26, none, o20), (29, none, o21), (52, none, o19), (53, some 0, fun _ => o3), (53, some 1, fun _ => o5), (53, some 3, fun _ => o1), (54, none, o0), (55, none, o6), (56, none, o2), (57, none, o4), (65, some 2, fun _ => o9), (65, some 3, fun _ => o8), (66, some 0, fun _ => o14), (66, some 1, fun _ => o16), (66, some 3, fun _ => o12), (67, none, o11), (68, none, o17), (69, none, o13), (70, none, o15)] J [(53, some 2, fun _ => o7), (66, some 2, fun _ => o18), (71, none, o10)]) | (.inr E, o0, o1, o2, o3, o4, o5, o6, o7, o8, o9, o10, o11, o12, o13, o14, o15, o16, o17, o18, o19, o20, o21) => Q (.inr E) (zS 19 7 I [(26, none, o20), (29, none, o21), (52, none, o19), (53, some 0, fun _ => o3), (53, some 1, fun _ => o5), (53, some 3, fun _ => o1), (54, none, o0), (55, none, o6), (56, none, o2), (57, none, o4), (65, some 2, fun _ => o9), (65, some 3, fun _ => o8), (66, some 0, fun _ => o14), (66, some 1, fun _ => o16), (66, some 3, fun _ => o12), (67, none, o11), (68, none, o17), (69, none, o13), (70, none, o15)] J [(53, some 2, fun _ => o7), (66, some 2, fun _ => o18), (71, none, o10)]))) : pm_call M cost zext d 122 [.ref 0, .int a1] (pm_st 108 (shp 19 7) I J) Q := by
  obtain ⟨d, rfl⟩ := zd1 hd rfl
  have hc := pm_call_m (M := M) (cost := cost) zext_m d
  refine z_in (L := [(26, none, (I 26)), (29, none, (I 29)), (52, none, (I 52)), (53, some 0, fun _ => (I 53 0)), (53, some 1, fun _ => (I 53 1)), (53, some 3, fun _ => (I 53 3)), (54, none, (I 54)), (55, none, (I 55)), (56, none, (I 56)), (57, none, (I 57)), (65, some 2, fun _ => (I 65 2)), (65, some 3, fun _ => (I 65 3)), (66, some 0, fun _ => (I 66 0)), (66, some 1, fun _ => (I 66 1)), (66, some 3, fun _ => (I 66 3)), (67, none, (I 67)), (68, none, (I 68)), (69, none, (I 69)), (70, none, (I 70))]) (K := [(53, some 2, fun _ => (J 53 2)), (66, some 2, fun _ => (J 66 2)), (71, none, (J 71))]) (ls := [some (.ref 0), some (.int a1)]) zmt_122 zco_122 rfl rfl (zid_a (zid_a (zid_a (zid_s (zid_s (zid_s (zid_a (zid_a (zid_a (zid_a (zid_s (zid_s (zid_s (zid_s (zid_s (zid_a (zid_a (zid_a (zid_a zid_n))))))))))))))))))) (zid_s (zid_s (zid_a zid_n))) ?_
  delta f_X11_ahead at h
  refine g_iload_n (pc' := 1)  hc rfl rfl rfl ?_
  refine g_iconst (pc' := 2) (v := (2 : Int32)) hc rfl zki_2 rfl ?_
  refine z_stat (as := [.int a1, .int (2 : Int32)]) (r := []) hc rfl rfl rfl rfl zco_135 rfl rfl rfl ?_
  refine ok_X11_checkWhat (zdp hd rfl) (zwp_mono (zwp_bind h) ?_)
  rintro (⟨⟩ | E1) h
  · refine z_po (pc' := 5) (st' := []) (v := none) (L' := [(26, none, (I 26)), (29, none, (I 29)), (52, none, (I 52)), (53, some 0, fun _ => (I 53 0)), (53, some 1, fun _ => (I 53 1)), (53, some 3, fun _ => (I 53 3)), (54, none, (I 54)), (55, none, (I 55)), (56, none, (I 56)), (57, none, (I 57)), (65, some 2, fun _ => (I 65 2)), (65, some 3, fun _ => (I 65 3)), (66, some 0, fun _ => (I 66 0)), (66, some 1, fun _ => (I 66 1)), (66, some 3, fun _ => (I 66 3)), (67, none, (I 67)), (68, none, (I 68)), (69, none, (I 69)), (70, none, (I 70))]) (K' := [(53, some 2, fun _ => (J 53 2)), (66, some 2, fun _ => (J 66 2)), (71, none, (J 71))]) zco_135 rfl rfl rfl rfl rfl rfl rfl rfl ?_
    refine g_iload_n (pc' := 6)  hc rfl rfl rfl ?_
    refine g_iconst (pc' := 7) (v := (2 : Int32)) hc rfl zki_2 rfl ?_
    refine g_icmp_ne (pc' := 10) hc rfl rfl (fun hx => ?_) (fun hx => ?_)
    · replace h := zwp_f h hx
      refine g_aload_n (pc' := 54)  hc rfl rfl rfl rfl ?_
      refine z_getR (pc' := 57)  hc rfl rfl rfl sh_0 rfl rfl ?_
      refine g_aload_n (pc' := 58)  hc rfl rfl rfl rfl ?_
      refine z_getR (pc' := 61)  hc rfl rfl rfl sh_0 rfl rfl ?_
      refine g_aload_n (pc' := 62)  hc rfl rfl rfl rfl ?_
      refine z_getR (pc' := 65)  hc rfl rfl rfl sh_0 rfl rfl ?_
      refine g_aload_n (pc' := 66)  hc rfl rfl rfl rfl ?_
      refine z_getR (pc' := 69)  hc rfl rfl rfl sh_0 rfl rfl ?_
      refine g_aload_n (pc' := 70)  hc rfl rfl rfl rfl ?_
      refine z_getR (pc' := 73)  hc rfl rfl rfl sh_0 rfl rfl ?_
      refine z_virt (as := [.ref 19, .ref 31, .ref 36, .ref 51]) (a := 65) (r := []) hc rfl rfl rfl rfl sh_65 rfl zco_9 rfl rfl rfl ?_
      refine ok_X1_search_65_19_31_36_51 (zdp hd rfl) (zwp_mono (zwp_bind h) ?_)
      rintro ⟨o2, o3, o4, o5, o6, o7, o8, o9, o10, o11, o12, o13, o14, o15⟩ h
      refine z_po (pc' := 76) (st' := []) (v := none) (L' := [(26, none, o6), (29, none, o7), (52, none, o4), (53, some 0, fun _ => (I 53 0)), (53, some 1, fun _ => (I 53 1)), (53, some 3, fun _ => (I 53 3)), (54, none, (I 54)), (55, none, (I 55)), (56, none, (I 56)), (57, none, (I 57)), (65, some 2, fun _ => o3), (65, some 3, fun _ => o2), (66, some 0, fun _ => o11), (66, some 1, fun _ => o13), (66, some 3, fun _ => o9), (67, none, o8), (68, none, o14), (69, none, o10), (70, none, o12)]) (K' := [(53, some 2, fun _ => (J 53 2)), (66, some 2, fun _ => o15), (71, none, o5)]) zco_9 rfl rfl rfl rfl rfl rfl rfl rfl ?_
      refine g_iload_n (pc' := 77)  hc rfl rfl rfl ?_
      refine g_if_ne (pc' := 80) hc rfl rfl (fun hx => ?_) (fun hx => ?_)
      · replace h := zwp_f h hx
        refine g_aload_n (pc' := 91)  hc rfl rfl rfl rfl ?_
        refine z_getR (pc' := 94)  hc rfl rfl rfl sh_0 rfl rfl ?_
        refine z_getI (pc' := 97) (v := o2) hc rfl rfl rfl sh_65 rfl rfl rfl ?_
        replace h := zws h
        exact g_ireturn hc rfl rfl rfl (fun _ => ⟨rfl, rfl⟩) h
      · replace h := zwp_t h hx
        refine g_aload_n (pc' := 81)  hc rfl rfl rfl rfl ?_
        refine z_getR (pc' := 84)  hc rfl rfl rfl sh_0 rfl rfl ?_
        refine z_getI (pc' := 87) (v := o3) hc rfl rfl rfl sh_65 rfl rfl rfl ?_
        refine g_goto hc rfl ?_
        replace h := zws h
        exact g_ireturn hc rfl rfl rfl (fun _ => ⟨rfl, rfl⟩) h
    · replace h := zwp_t h hx
      refine g_aload_n (pc' := 11)  hc rfl rfl rfl rfl ?_
      refine z_getR (pc' := 14)  hc rfl rfl rfl sh_0 rfl rfl ?_
      refine g_aload_n (pc' := 15)  hc rfl rfl rfl rfl ?_
      refine z_getR (pc' := 18)  hc rfl rfl rfl sh_0 rfl rfl ?_
      refine z_virt (as := [.ref 31]) (a := 53) (r := []) hc rfl rfl rfl rfl sh_53 rfl zco_68 rfl rfl rfl ?_
      refine ok_X8_copyFrom_53_31 (zdp hd rfl) (zwp_mono (zwp_bind h) ?_)
      rintro ⟨o16, o17, o18, o19, o20, o21, o22, o23⟩ h
      refine z_po (pc' := 21) (st' := []) (v := none) (L' := [(26, none, (I 26)), (29, none, (I 29)), (52, none, (I 52)), (53, some 0, fun _ => o19), (53, some 1, fun _ => o21), (53, some 3, fun _ => o17), (54, none, o16), (55, none, o22), (56, none, o18), (57, none, o20), (65, some 2, fun _ => (I 65 2)), (65, some 3, fun _ => (I 65 3)), (66, some 0, fun _ => (I 66 0)), (66, some 1, fun _ => (I 66 1)), (66, some 3, fun _ => (I 66 3)), (67, none, (I 67)), (68, none, (I 68)), (69, none, (I 69)), (70, none, (I 70))]) (K' := [(53, some 2, fun _ => o23), (66, some 2, fun _ => (J 66 2)), (71, none, (J 71))]) zco_68 rfl rfl rfl rfl rfl rfl rfl rfl ?_
      refine g_aload_n (pc' := 22)  hc rfl rfl rfl rfl ?_
      refine z_getR (pc' := 25)  hc rfl rfl rfl sh_0 rfl rfl ?_
      refine g_aload_n (pc' := 26)  hc rfl rfl rfl rfl ?_
      refine z_getR (pc' := 29)  hc rfl rfl rfl sh_0 rfl rfl ?_
      refine g_aload_n (pc' := 30)  hc rfl rfl rfl rfl ?_
      refine z_getR (pc' := 33)  hc rfl rfl rfl sh_0 rfl rfl ?_
      refine g_aload_n (pc' := 34)  hc rfl rfl rfl rfl ?_
      refine z_getR (pc' := 37)  hc rfl rfl rfl sh_0 rfl rfl ?_
      refine g_aload_n (pc' := 38)  hc rfl rfl rfl rfl ?_
      refine z_getR (pc' := 41)  hc rfl rfl rfl sh_0 rfl rfl ?_
      refine z_virt (as := [.ref 19, .ref 53, .ref 36, .ref 51]) (a := 65) (r := []) hc rfl rfl rfl rfl sh_65 rfl zco_10 rfl rfl rfl ?_
      refine ok_X1_holdsAll_65_19_53_36_51 (zdp hd rfl) (zwp_mono (zwp_bind h) ?_)
      rintro ⟨r31, o24, o25, o26, o27, o28, o29, o30⟩ h
      refine z_po (pc' := 44) (st' := [.int r31]) (v := (some (.int r31))) (L' := [(26, none, o25), (29, none, o26), (52, none, o24), (53, some 0, fun _ => o29), (53, some 1, fun _ => o21), (53, some 3, fun _ => o17), (54, none, o27), (55, none, o30), (56, none, o28), (57, none, o20), (65, some 2, fun _ => (I 65 2)), (65, some 3, fun _ => (I 65 3)), (66, some 0, fun _ => (I 66 0)), (66, some 1, fun _ => (I 66 1)), (66, some 3, fun _ => (I 66 3)), (67, none, (I 67)), (68, none, (I 68)), (69, none, (I 69)), (70, none, (I 70))]) (K' := [(53, some 2, fun _ => o23), (66, some 2, fun _ => (J 66 2)), (71, none, (J 71))]) zco_10 rfl rfl rfl rfl rfl rfl rfl rfl ?_
      refine g_if_eq (pc' := 47) hc rfl rfl (fun hx => ?_) (fun hx => ?_)
      · replace h := zwp_t h hx
        refine g_iconst (pc' := 52) (v := (0 : Int32)) hc rfl zki_0 rfl ?_
        replace h := zws h
        exact g_ireturn hc rfl rfl rfl (fun _ => ⟨rfl, rfl⟩) h
      · replace h := zwp_f h hx
        refine g_iconst (pc' := 48) (v := (1 : Int32)) hc rfl zki_1 rfl ?_
        refine g_goto hc rfl ?_
        replace h := zws h
        exact g_ireturn hc rfl rfl rfl (fun _ => ⟨rfl, rfl⟩) h
  · replace h := zws h
    exact z_pox (L' := [(26, none, (I 26)), (29, none, (I 29)), (52, none, (I 52)), (53, some 0, fun _ => (I 53 0)), (53, some 1, fun _ => (I 53 1)), (53, some 3, fun _ => (I 53 3)), (54, none, (I 54)), (55, none, (I 55)), (56, none, (I 56)), (57, none, (I 57)), (65, some 2, fun _ => (I 65 2)), (65, some 3, fun _ => (I 65 3)), (66, some 0, fun _ => (I 66 0)), (66, some 1, fun _ => (I 66 1)), (66, some 3, fun _ => (I 66 3)), (67, none, (I 67)), (68, none, (I 68)), (69, none, (I 69)), (70, none, (I 70))]) (K' := [(53, some 2, fun _ => (J 53 2)), (66, some 2, fun _ => (J 66 2)), (71, none, (J 71))]) rfl rfl rfl rfl rfl rfl rfl h
set_option maxHeartbeats 20000000 in
set_option maxRecDepth 4000 in
theorem ok_L_ahead_0_107_q {I : pI} {J : pJ} {a1 : Int32} {Q : pQ} {d : Nat} (hd : 9 ≤ d) (h : zwp (f_L_ahead a1 1 (J 107) (I 39) (I 38) (I 40) (I 36 3) (I 54) (I 53 3) (I 56) (I 53 0) (I 57) (I 53 1) (I 55) (J 53 2) (I 65 3) (I 65 2) (J 71) (I 67) (I 66 3) (I 69) (I 66 0) (I 70) (I 66 1) (I 68) (J 66 2) (I 52) (I 32) (I 31 3) (I 34) (I 31 0) (I 35) (I 31 1) (I 33) (J 31 2) (I 19 12) (I 19 3) (I 27) (I 25 2) (I 26) (I 19 1) (I 30) (I 28 2) (I 29) (I 24) (I 19 9) (I 21) (I 22) (I 19 0)) (fun w => match w with | (r, o0, o1, o2, o3, o4, o5, o6, o7, o8, o9, o10, o11, o12, o13, o14, o15, o16, o17, o18, o19, o20, o21, o22) => Q (.inl (some (.int r))) (zS 19 7 I [(26, none, o21), (29, none, o22), (52, none, o20), (53, some 0, fun _ => o4), (53, some 1, fun _ => o6), (53, some 3, fun _ => o2), (54, none, o1), (55, none, o7), (56, none, o3), (57, none, o5), (65, some 2, fun _ => o10), (65, some 3, fun _ => o9), (66, some 0, fun _ => o15), (66, some 1, fun _ => o17), (66, some 3, fun _ => o13), (67, none, o12), (68, none, o18), (69, none, o14), (70, none, o16)] J [(53, some 2, fun _ => o8), (66, some 2, fun _ => o19), (71, none, o11), (107, none, o0)]))) : pm_call M cost zext d 291 [.ref 0, .int a1, .ref 107] (pm_st 108 (shp 19 7) I J) Q := by
  obtain ⟨d, rfl⟩ := zd1 hd rfl
  have hc := pm_call_m (M := M) (cost := cost) zext_m d
  refine z_in (L := [(26, none, (I 26)), (29, none, (I 29)), (52, none, (I 52)), (53, some 0, fun _ => (I 53 0)), (53, some 1, fun _ => (I 53 1)), (53, some 3, fun _ => (I 53 3)), (54, none, (I 54)), (55, none, (I 55)), (56, none, (I 56)), (57, none, (I 57)), (65, some 2, fun _ => (I 65 2)), (65, some 3, fun _ => (I 65 3)), (66, some 0, fun _ => (I 66 0)), (66, some 1, fun _ => (I 66 1)), (66, some 3, fun _ => (I 66 3)), (67, none, (I 67)), (68, none, (I 68)), (69, none, (I 69)), (70, none, (I 70))]) (K := [(53, some 2, fun _ => (J 53 2)), (66, some 2, fun _ => (J 66 2)), (71, none, (J 71)), (107, none, (J 107))]) (ls := [some (.ref 0), some (.int a1), some (.ref 107), none]) zmt_291 zco_291 rfl rfl (zid_a (zid_a (zid_a (zid_s (zid_s (zid_s (zid_a (zid_a (zid_a (zid_a (zid_s (zid_s (zid_s (zid_s (zid_s (zid_a (zid_a (zid_a (zid_a zid_n))))))))))))))))))) (zid_s (zid_s (zid_a (zid_a zid_n)))) ?_
  delta f_L_ahead at h
  refine g_aload_n (pc' := 1)  hc rfl rfl rfl rfl ?_
  refine g_iconst (pc' := 2) (v := (0 : Int32)) hc rfl zki_0 rfl ?_
  refine g_aload_n (pc' := 3)  hc rfl rfl rfl rfl ?_
  refine g_iload_n (pc' := 4)  hc rfl rfl rfl ?_
  refine z_virt (as := [.int a1]) (a := 0) (r := [.int (0 : Int32), .ref 107]) hc rfl rfl rfl rfl sh_0 rfl zco_122 rfl rfl rfl ?_
  refine ok_X11_ahead_0_q (zdp hd rfl) (zwp_mono (zwp_bind h) ?_)
  rintro ⟨(r23 | E24), o1, o2, o3, o4, o5, o6, o7, o8, o9, o10, o11, o12, o13, o14, o15, o16, o17, o18, o19, o20, o21, o22⟩ h
  · refine z_po (pc' := 7) (st' := [.int r23, .int (0 : Int32), .ref 107]) (v := (some (.int r23))) (L' := [(26, none, o21), (29, none, o22), (52, none, o20), (53, some 0, fun _ => o4), (53, some 1, fun _ => o6), (53, some 3, fun _ => o2), (54, none, o1), (55, none, o7), (56, none, o3), (57, none, o5), (65, some 2, fun _ => o10), (65, some 3, fun _ => o9), (66, some 0, fun _ => o15), (66, some 1, fun _ => o17), (66, some 3, fun _ => o13), (67, none, o12), (68, none, o18), (69, none, o14), (70, none, o16)]) (K' := [(53, some 2, fun _ => o8), (66, some 2, fun _ => o19), (71, none, o11), (107, none, (J 107))]) zco_122 rfl rfl rfl rfl rfl rfl rfl rfl ?_
    refine g_i2l (pc' := 8)  hc rfl rfl ?_
    have hb := (zwp_bnd h).1
    replace h := (zwp_bnd h).2
    refine z_lastore (pc' := 9) (g := (J 107)) (K' := [(53, some 2, fun _ => o8), (66, some 2, fun _ => o19), (71, none, o11), (107, none, (vp_updL ((J 107)) (0 : Int32).toNatClampNeg r23.toInt64))]) hc rfl rfl sh_107 hb rfl rfl rfl rfl ?_
    refine g_goto hc rfl ?_
    refine g_iconst (pc' := 16) (v := (0 : Int32)) hc rfl zki_0 rfl ?_
    replace h := zws h
    exact g_ireturn hc rfl rfl rfl (fun _ => ⟨rfl, rfl⟩) h
  · by_cases hE : E24 = x_N
    · replace h := zwp_t h hE
      replace h := zws h
      exact z_poh (L' := [(26, none, o21), (29, none, o22), (52, none, o20), (53, some 0, fun _ => o4), (53, some 1, fun _ => o6), (53, some 3, fun _ => o2), (54, none, o1), (55, none, o7), (56, none, o3), (57, none, o5), (65, some 2, fun _ => o10), (65, some 3, fun _ => o9), (66, some 0, fun _ => o15), (66, some 1, fun _ => o17), (66, some 3, fun _ => o13), (67, none, o12), (68, none, o18), (69, none, o14), (70, none, o16)]) (K' := [(53, some 2, fun _ => o8), (66, some 2, fun _ => o19), (71, none, o11), (107, none, (J 107))]) (zhd1 (e := 9) (pc := 4) rfl hE) rfl rfl rfl rfl rfl rfl rfl rfl h
    replace h := zwp_f h hE
    exact (zwn h).elim
set_option maxRecDepth 4000 in
theorem ok_X11_look_0_q {I : pI} {J : pJ} {a1 : Int32} {Q : pQ} {d : Nat} (hd : 8 ≤ d) (h : zwp (f_X11_look a1 (I 39) (I 38) (I 40) (I 36 3) (I 65 3) (I 65 2) (J 71) (I 67) (I 66 3) (I 69) (I 66 0) (I 70) (I 66 1) (I 68) (J 66 2) (I 52) (I 32) (I 31 3) (I 34) (I 31 0) (I 35) (I 31 1) (I 33) (J 31 2) (I 19 12) (I 19 3) (I 27) (I 25 2) (I 26) (I 19 1) (I 30) (I 28 2) (I 29) (I 24) (I 19 9) (I 21) (I 22) (I 19 0)) (fun w => match w with | (.inl r, o0, o1, o2, o3, o4, o5, o6, o7, o8, o9, o10, o11, o12, o13) => Q (.inl (some (.int r))) (zS 19 7 I [(26, none, o12), (29, none, o13), (52, none, o11), (65, some 2, fun _ => o1), (65, some 3, fun _ => o0), (66, some 0, fun _ => o6), (66, some 1, fun _ => o8), (66, some 3, fun _ => o4), (67, none, o3), (68, none, o9), (69, none, o5), (70, none, o7)] J [(66, some 2, fun _ => o10), (71, none, o2)]) | (.inr E, o0, o1, o2, o3, o4, o5, o6, o7, o8, o9, o10, o11, o12, o13) => Q (.inr E) (zS 19 7 I [(26, none, o12), (29, none, o13), (52, none, o11), (65, some 2, fun _ => o1), (65, some 3, fun _ => o0), (66, some 0, fun _ => o6), (66, some 1, fun _ => o8), (66, some 3, fun _ => o4), (67, none, o3), (68, none, o9), (69, none, o5), (70, none, o7)] J [(66, some 2, fun _ => o10), (71, none, o2)]))) : pm_call M cost zext d 123 [.ref 0, .int a1] (pm_st 108 (shp 19 7) I J) Q := by
  obtain ⟨d, rfl⟩ := zd1 hd rfl
  have hc := pm_call_m (M := M) (cost := cost) zext_m d
  refine z_in (L := [(26, none, (I 26)), (29, none, (I 29)), (52, none, (I 52)), (65, some 2, fun _ => (I 65 2)), (65, some 3, fun _ => (I 65 3)), (66, some 0, fun _ => (I 66 0)), (66, some 1, fun _ => (I 66 1)), (66, some 3, fun _ => (I 66 3)), (67, none, (I 67)), (68, none, (I 68)), (69, none, (I 69)), (70, none, (I 70))]) (K := [(66, some 2, fun _ => (J 66 2)), (71, none, (J 71))]) (ls := [some (.ref 0), some (.int a1), none, none, none, none]) zmt_123 zco_123 rfl rfl (zid_a (zid_a (zid_a (zid_s (zid_s (zid_s (zid_s (zid_s (zid_a (zid_a (zid_a (zid_a zid_n)))))))))))) (zid_s (zid_a zid_n)) ?_
  delta f_X11_look at h
  refine g_iload_n (pc' := 1)  hc rfl rfl rfl ?_
  refine g_iconst (pc' := 2) (v := (1 : Int32)) hc rfl zki_1 rfl ?_
  refine z_stat (as := [.int a1, .int (1 : Int32)]) (r := []) hc rfl rfl rfl rfl zco_135 rfl rfl rfl ?_
  refine ok_X11_checkWhat (zdp hd rfl) (zwp_mono (zwp_bind h) ?_)
  rintro (⟨⟩ | E1) h
  · refine z_po (pc' := 5) (st' := []) (v := none) (L' := [(26, none, (I 26)), (29, none, (I 29)), (52, none, (I 52)), (65, some 2, fun _ => (I 65 2)), (65, some 3, fun _ => (I 65 3)), (66, some 0, fun _ => (I 66 0)), (66, some 1, fun _ => (I 66 1)), (66, some 3, fun _ => (I 66 3)), (67, none, (I 67)), (68, none, (I 68)), (69, none, (I 69)), (70, none, (I 70))]) (K' := [(66, some 2, fun _ => (J 66 2)), (71, none, (J 71))]) zco_135 rfl rfl rfl rfl rfl rfl rfl rfl ?_
    refine g_aload_n (pc' := 6)  hc rfl rfl rfl rfl ?_
    refine z_getR (pc' := 9)  hc rfl rfl rfl sh_0 rfl rfl ?_
    refine g_aload_n (pc' := 10)  hc rfl rfl rfl rfl ?_
    refine z_getR (pc' := 13)  hc rfl rfl rfl sh_0 rfl rfl ?_
    refine g_aload_n (pc' := 14)  hc rfl rfl rfl rfl ?_
    refine z_getR (pc' := 17)  hc rfl rfl rfl sh_0 rfl rfl ?_
    refine g_aload_n (pc' := 18)  hc rfl rfl rfl rfl ?_
    refine z_getR (pc' := 21)  hc rfl rfl rfl sh_0 rfl rfl ?_
    refine g_aload_n (pc' := 22)  hc rfl rfl rfl rfl ?_
    refine z_getR (pc' := 25)  hc rfl rfl rfl sh_0 rfl rfl ?_
    refine z_virt (as := [.ref 19, .ref 31, .ref 36, .ref 51]) (a := 65) (r := []) hc rfl rfl rfl rfl sh_65 rfl zco_9 rfl rfl rfl ?_
    refine ok_X1_search_65_19_31_36_51 (zdp hd rfl) (zwp_mono (zwp_bind h) ?_)
    rintro ⟨o2, o3, o4, o5, o6, o7, o8, o9, o10, o11, o12, o13, o14, o15⟩ h
    refine z_po (pc' := 28) (st' := []) (v := none) (L' := [(26, none, o6), (29, none, o7), (52, none, o4), (65, some 2, fun _ => o3), (65, some 3, fun _ => o2), (66, some 0, fun _ => o11), (66, some 1, fun _ => o13), (66, some 3, fun _ => o9), (67, none, o8), (68, none, o14), (69, none, o10), (70, none, o12)]) (K' := [(66, some 2, fun _ => o15), (71, none, o5)]) zco_9 rfl rfl rfl rfl rfl rfl rfl rfl ?_
    refine g_iconst (pc' := 29) (v := (0 : Int32)) hc rfl zki_0 rfl ?_
    refine g_istore_n (pc' := 30) (ls1 := [some (.ref 0), some (.int a1), some (.int (0 : Int32)), none, none, none]) hc rfl (zlt rfl) rfl rfl ?_
    refine g_iconst (pc' := 31) (v := (-1 : Int32)) hc rfl zki_m1 rfl ?_
    refine g_istore_n (pc' := 32) (ls1 := [some (.ref 0), some (.int a1), some (.int (0 : Int32)), some (.int (-1 : Int32)), none, none]) hc rfl (zlt rfl) rfl rfl ?_
    refine g_iconst (pc' := 33) (v := (0 : Int32)) hc rfl zki_0 rfl ?_
    refine g_istore (pc' := 35) (ls1 := [some (.ref 0), some (.int a1), some (.int (0 : Int32)), some (.int (-1 : Int32)), some (.int (0 : Int32)), none]) hc rfl (zlt rfl) rfl rfl ?_
    refine zjn (G := (fun (g : Int32 × Int32) => match g with | (y20, y21) => ∀ z22 : Option Value, znl z22 = true → ∀ z23 : Option Value, znl z23 = true → pm_ev C_X11_look (d + 1) (pm_call M cost zext d) cost (false, false) 108 1 6 Q 80 [some (.ref 0), some (.int a1), some (.int y20), some (.int y21), z22, z23] [] 0 0 (zS 19 7 I [(26, none, o6), (29, none, o7), (52, none, o4), (65, some 2, fun _ => o3), (65, some 3, fun _ => o2), (66, some 0, fun _ => o11), (66, some 1, fun _ => o13), (66, some 3, fun _ => o9), (67, none, o8), (68, none, o14), (69, none, o10), (70, none, o12)] J [(66, some 2, fun _ => o15), (71, none, o5)]))) (zwp_bind h) ?_ (fun h => ?_)
    · rintro ⟨y20, y21⟩ h z22 hz22 z23 hz23
      refine g_iload_n (pc' := 81)  hc rfl rfl rfl ?_
      refine g_if_ne (pc' := 84) hc rfl rfl (fun hx => ?_) (fun hx => ?_)
      · replace h := zwp_f h hx
        refine g_iload_n (pc' := 89)  hc rfl rfl rfl ?_
        replace h := zws h
        exact g_ireturn hc rfl rfl rfl (fun _ => ⟨rfl, rfl⟩) h
      · replace h := zwp_t h hx
        refine g_iload_n (pc' := 85)  hc rfl rfl rfl ?_
        refine g_goto hc rfl ?_
        replace h := zws h
        exact g_ireturn hc rfl rfl rfl (fun _ => ⟨rfl, rfl⟩) h
    refine zitr_ev (G := (fun (g : Int32 × Int32 × Int32) => match g with | (x16, x17, x18) => ∀ z19 : Option Value, znl z19 = true → pm_ev C_X11_look (d + 1) (pm_call M cost zext d) cost (false, false) 108 1 6 Q 35 [some (.ref 0), some (.int a1), some (.int x16), some (.int x17), some (.int x18), z19] [] 0 0 (zS 19 7 I [(26, none, o6), (29, none, o7), (52, none, o4), (65, some 2, fun _ => o3), (65, some 3, fun _ => o2), (66, some 0, fun _ => o11), (66, some 1, fun _ => o13), (66, some 3, fun _ => o9), (67, none, o8), (68, none, o14), (69, none, o10), (70, none, o12)] J [(66, some 2, fun _ => o15), (71, none, o5)]))) ?_ zFU ((0 : Int32), (-1 : Int32), (0 : Int32)) h none rfl
    rintro ⟨x16, x17, x18⟩ h z19 hz19
    refine g_iload (pc' := 37)  hc rfl rfl rfl ?_
    refine g_aload_n (pc' := 38)  hc rfl rfl rfl rfl ?_
    refine z_getR (pc' := 41)  hc rfl rfl rfl sh_0 rfl rfl ?_
    refine z_getI (pc' := 44) (v := (I 19 3)) hc rfl rfl rfl sh_19 rfl rfl rfl ?_
    refine g_icmp_ge (pc' := 47) hc rfl rfl (fun hx => ?_) (fun hx => ?_)
    · replace h := zwp_t h hx
      replace h := zwp_r h
      exact h (some (.int x18)) rfl z19 hz19
    · replace h := zwp_f h hx
      refine g_aload_n (pc' := 48)  hc rfl rfl rfl rfl ?_
      refine z_getR (pc' := 51)  hc rfl rfl rfl sh_0 rfl rfl ?_
      refine z_getR (pc' := 54)  hc rfl rfl rfl sh_65 rfl rfl ?_
      refine g_iload (pc' := 56)  hc rfl rfl rfl ?_
      have hb := (zwp_bnd h).1
      replace h := (zwp_bnd h).2
      refine z_laload (pc' := 57) (v := (o5 x18.toNatClampNeg)) hc rfl rfl sh_71 hb rfl rfl ?_
      refine z_stat (as := [.long (o5 x18.toNatClampNeg)]) (r := []) hc rfl rfl rfl rfl zco_266 rfl rfl rfl ?_
      refine ok_J13_bitCount_95d88 (zdp hd rfl) (zwp_mono (zwp_bind h) ?_)
      rintro r24 h
      refine z_po (pc' := 60) (st' := [.int r24]) (v := (some (.int r24))) (L' := [(26, none, o6), (29, none, o7), (52, none, o4), (65, some 2, fun _ => o3), (65, some 3, fun _ => o2), (66, some 0, fun _ => o11), (66, some 1, fun _ => o13), (66, some 3, fun _ => o9), (67, none, o8), (68, none, o14), (69, none, o10), (70, none, o12)]) (K' := [(66, some 2, fun _ => o15), (71, none, o5)]) zco_266 rfl rfl rfl rfl rfl rfl rfl rfl ?_
      refine g_istore (pc' := 62) (ls1 := [some (.ref 0), some (.int a1), some (.int x16), some (.int x17), some (.int x18), some (.int r24)]) hc rfl (zlt rfl) rfl rfl ?_
      refine g_iload (pc' := 64)  hc rfl rfl rfl ?_
      refine g_iload_n (pc' := 65)  hc rfl rfl rfl ?_
      refine g_icmp_le (pc' := 68) hc rfl rfl (fun hx => ?_) (fun hx => ?_)
      · replace h := zwp_t h hx
        refine g_iinc (pc' := 77) (ls1 := [some (.ref 0), some (.int a1), some (.int x16), some (.int x17), some (.int (x18 + (1 : Int32))), some (.int r24)]) hc rfl rfl zki_1 (zlt rfl) rfl rfl ?_
        refine g_goto hc rfl ?_
        replace h := zwp_l h
        exact h (some (.int r24)) rfl
      · replace h := zwp_f h hx
        refine g_iload (pc' := 70)  hc rfl rfl rfl ?_
        refine g_istore_n (pc' := 71) (ls1 := [some (.ref 0), some (.int a1), some (.int r24), some (.int x17), some (.int x18), some (.int r24)]) hc rfl (zlt rfl) rfl rfl ?_
        refine g_iload (pc' := 73)  hc rfl rfl rfl ?_
        refine g_istore_n (pc' := 74) (ls1 := [some (.ref 0), some (.int a1), some (.int r24), some (.int x18), some (.int x18), some (.int r24)]) hc rfl (zlt rfl) rfl rfl ?_
        refine g_iinc (pc' := 77) (ls1 := [some (.ref 0), some (.int a1), some (.int r24), some (.int x18), some (.int (x18 + (1 : Int32))), some (.int r24)]) hc rfl rfl zki_1 (zlt rfl) rfl rfl ?_
        refine g_goto hc rfl ?_
        replace h := zwp_l h
        exact h (some (.int r24)) rfl
  · replace h := zws h
    exact z_pox (L' := [(26, none, (I 26)), (29, none, (I 29)), (52, none, (I 52)), (65, some 2, fun _ => (I 65 2)), (65, some 3, fun _ => (I 65 3)), (66, some 0, fun _ => (I 66 0)), (66, some 1, fun _ => (I 66 1)), (66, some 3, fun _ => (I 66 3)), (67, none, (I 67)), (68, none, (I 68)), (69, none, (I 69)), (70, none, (I 70))]) (K' := [(66, some 2, fun _ => (J 66 2)), (71, none, (J 71))]) rfl rfl rfl rfl rfl rfl rfl h
set_option maxRecDepth 4000 in
theorem ok_L_look_0_107_q {I : pI} {J : pJ} {a1 : Int32} {Q : pQ} {d : Nat} (hd : 9 ≤ d) (h : zwp (f_L_look a1 1 (J 107) (I 39) (I 38) (I 40) (I 36 3) (I 65 3) (I 65 2) (J 71) (I 67) (I 66 3) (I 69) (I 66 0) (I 70) (I 66 1) (I 68) (J 66 2) (I 52) (I 32) (I 31 3) (I 34) (I 31 0) (I 35) (I 31 1) (I 33) (J 31 2) (I 19 12) (I 19 3) (I 27) (I 25 2) (I 26) (I 19 1) (I 30) (I 28 2) (I 29) (I 24) (I 19 9) (I 21) (I 22) (I 19 0)) (fun w => match w with | (r, o0, o1, o2, o3, o4, o5, o6, o7, o8, o9, o10, o11, o12, o13, o14) => Q (.inl (some (.int r))) (zS 19 7 I [(26, none, o13), (29, none, o14), (52, none, o12), (65, some 2, fun _ => o2), (65, some 3, fun _ => o1), (66, some 0, fun _ => o7), (66, some 1, fun _ => o9), (66, some 3, fun _ => o5), (67, none, o4), (68, none, o10), (69, none, o6), (70, none, o8)] J [(66, some 2, fun _ => o11), (71, none, o3), (107, none, o0)]))) : pm_call M cost zext d 292 [.ref 0, .int a1, .ref 107] (pm_st 108 (shp 19 7) I J) Q := by
  obtain ⟨d, rfl⟩ := zd1 hd rfl
  have hc := pm_call_m (M := M) (cost := cost) zext_m d
  refine z_in (L := [(26, none, (I 26)), (29, none, (I 29)), (52, none, (I 52)), (65, some 2, fun _ => (I 65 2)), (65, some 3, fun _ => (I 65 3)), (66, some 0, fun _ => (I 66 0)), (66, some 1, fun _ => (I 66 1)), (66, some 3, fun _ => (I 66 3)), (67, none, (I 67)), (68, none, (I 68)), (69, none, (I 69)), (70, none, (I 70))]) (K := [(66, some 2, fun _ => (J 66 2)), (71, none, (J 71)), (107, none, (J 107))]) (ls := [some (.ref 0), some (.int a1), some (.ref 107), none]) zmt_292 zco_292 rfl rfl (zid_a (zid_a (zid_a (zid_s (zid_s (zid_s (zid_s (zid_s (zid_a (zid_a (zid_a (zid_a zid_n)))))))))))) (zid_s (zid_a (zid_a zid_n))) ?_
  delta f_L_look at h
  refine g_aload_n (pc' := 1)  hc rfl rfl rfl rfl ?_
  refine g_iconst (pc' := 2) (v := (0 : Int32)) hc rfl zki_0 rfl ?_
  refine g_aload_n (pc' := 3)  hc rfl rfl rfl rfl ?_
  refine g_iload_n (pc' := 4)  hc rfl rfl rfl ?_
  refine z_virt (as := [.int a1]) (a := 0) (r := [.int (0 : Int32), .ref 107]) hc rfl rfl rfl rfl sh_0 rfl zco_123 rfl rfl rfl ?_
  refine ok_X11_look_0_q (zdp hd rfl) (zwp_mono (zwp_bind h) ?_)
  rintro ⟨(r15 | E16), o1, o2, o3, o4, o5, o6, o7, o8, o9, o10, o11, o12, o13, o14⟩ h
  · refine z_po (pc' := 7) (st' := [.int r15, .int (0 : Int32), .ref 107]) (v := (some (.int r15))) (L' := [(26, none, o13), (29, none, o14), (52, none, o12), (65, some 2, fun _ => o2), (65, some 3, fun _ => o1), (66, some 0, fun _ => o7), (66, some 1, fun _ => o9), (66, some 3, fun _ => o5), (67, none, o4), (68, none, o10), (69, none, o6), (70, none, o8)]) (K' := [(66, some 2, fun _ => o11), (71, none, o3), (107, none, (J 107))]) zco_123 rfl rfl rfl rfl rfl rfl rfl rfl ?_
    refine g_i2l (pc' := 8)  hc rfl rfl ?_
    have hb := (zwp_bnd h).1
    replace h := (zwp_bnd h).2
    refine z_lastore (pc' := 9) (g := (J 107)) (K' := [(66, some 2, fun _ => o11), (71, none, o3), (107, none, (vp_updL ((J 107)) (0 : Int32).toNatClampNeg r15.toInt64))]) hc rfl rfl sh_107 hb rfl rfl rfl rfl ?_
    refine g_goto hc rfl ?_
    refine g_iconst (pc' := 16) (v := (0 : Int32)) hc rfl zki_0 rfl ?_
    replace h := zws h
    exact g_ireturn hc rfl rfl rfl (fun _ => ⟨rfl, rfl⟩) h
  · by_cases hE : E16 = x_N
    · replace h := zwp_t h hE
      replace h := zws h
      exact z_poh (L' := [(26, none, o13), (29, none, o14), (52, none, o12), (65, some 2, fun _ => o2), (65, some 3, fun _ => o1), (66, some 0, fun _ => o7), (66, some 1, fun _ => o9), (66, some 3, fun _ => o5), (67, none, o4), (68, none, o10), (69, none, o6), (70, none, o8)]) (K' := [(66, some 2, fun _ => o11), (71, none, o3), (107, none, (J 107))]) (zhd1 (e := 9) (pc := 4) rfl hE) rfl rfl rfl rfl rfl rfl rfl rfl h
    replace h := zwp_f h hE
    exact (zwn h).elim
set_option maxRecDepth 4000 in
theorem ok_X11_clouds_0_q {I : pI} {J : pJ} {a1 : Int32} {a2 : Int32} {a3 : Int32} {a4 : Int32} {Q : pQ} {d : Nat} (hd : 8 ≤ d) (h : zwp (f_X11_clouds a1 a2 a3 a4 (I 54) (I 53 3) (I 56) (I 53 0) (I 57) (I 53 1) (I 55) (J 53 2) (I 52) (I 32) (I 31 3) (I 34) (I 31 0) (I 35) (I 31 1) (I 33) (J 31 2) (I 19 3) (I 27) (I 25 2) (I 26) (I 19 1) (I 30) (I 28 2) (I 29) (I 24) (I 19 9) (I 21) (I 22) (I 19 0)) (fun w => match w with | (.inl r, o0, o1, o2, o3, o4, o5, o6, o7, o8, o9, o10) => Q (.inl (some (.int r))) (zS 19 7 I [(26, none, o9), (29, none, o10), (52, none, o8), (53, some 0, fun _ => o3), (53, some 1, fun _ => o5), (53, some 3, fun _ => o1), (54, none, o0), (55, none, o6), (56, none, o2), (57, none, o4)] J [(53, some 2, fun _ => o7)]) | (.inr E, o0, o1, o2, o3, o4, o5, o6, o7, o8, o9, o10) => Q (.inr E) (zS 19 7 I [(26, none, o9), (29, none, o10), (52, none, o8), (53, some 0, fun _ => o3), (53, some 1, fun _ => o5), (53, some 3, fun _ => o1), (54, none, o0), (55, none, o6), (56, none, o2), (57, none, o4)] J [(53, some 2, fun _ => o7)]))) : pm_call M cost zext d 124 [.ref 0, .int a1, .int a2, .int a3, .int a4] (pm_st 108 (shp 19 7) I J) Q := by
  obtain ⟨d, rfl⟩ := zd1 hd rfl
  have hc := pm_call_m (M := M) (cost := cost) zext_m d
  refine z_in (L := [(26, none, (I 26)), (29, none, (I 29)), (52, none, (I 52)), (53, some 0, fun _ => (I 53 0)), (53, some 1, fun _ => (I 53 1)), (53, some 3, fun _ => (I 53 3)), (54, none, (I 54)), (55, none, (I 55)), (56, none, (I 56)), (57, none, (I 57))]) (K := [(53, some 2, fun _ => (J 53 2))]) (ls := [some (.ref 0), some (.int a1), some (.int a2), some (.int a3), some (.int a4), none, none, none, none, none]) zmt_124 zco_124 rfl rfl (zid_a (zid_a (zid_a (zid_s (zid_s (zid_s (zid_a (zid_a (zid_a (zid_a zid_n)))))))))) (zid_s zid_n) ?_
  delta f_X11_clouds at h
  refine g_aload_n (pc' := 1)  hc rfl rfl rfl rfl ?_
  refine g_iload_n (pc' := 2)  hc rfl rfl rfl ?_
  refine z_virt (as := [.int a1]) (a := 0) (r := []) hc rfl rfl rfl rfl sh_0 rfl zco_133 rfl rfl rfl ?_
  refine ok_X11_checkFigure_0_q (zdp hd rfl) (zwp_mono (zwp_bind h) ?_)
  rintro (⟨⟩ | E1) h
  · refine z_po (pc' := 5) (st' := []) (v := none) (L' := [(26, none, (I 26)), (29, none, (I 29)), (52, none, (I 52)), (53, some 0, fun _ => (I 53 0)), (53, some 1, fun _ => (I 53 1)), (53, some 3, fun _ => (I 53 3)), (54, none, (I 54)), (55, none, (I 55)), (56, none, (I 56)), (57, none, (I 57))]) (K' := [(53, some 2, fun _ => (J 53 2))]) zco_133 rfl rfl rfl rfl rfl rfl rfl rfl ?_
    refine g_aload_n (pc' := 6)  hc rfl rfl rfl rfl ?_
    refine g_iload_n (pc' := 7)  hc rfl rfl rfl ?_
    refine z_virt (as := [.int a2]) (a := 0) (r := []) hc rfl rfl rfl rfl sh_0 rfl zco_134 rfl rfl rfl ?_
    refine ok_X11_checkCell_0_q (zdp hd rfl) (zwp_mono (zwp_bind h) ?_)
    rintro (⟨⟩ | E2) h
    · refine z_po (pc' := 10) (st' := []) (v := none) (L' := [(26, none, (I 26)), (29, none, (I 29)), (52, none, (I 52)), (53, some 0, fun _ => (I 53 0)), (53, some 1, fun _ => (I 53 1)), (53, some 3, fun _ => (I 53 3)), (54, none, (I 54)), (55, none, (I 55)), (56, none, (I 56)), (57, none, (I 57))]) (K' := [(53, some 2, fun _ => (J 53 2))]) zco_134 rfl rfl rfl rfl rfl rfl rfl rfl ?_
      refine g_iload_n (pc' := 11)  hc rfl rfl rfl ?_
      refine g_iconst (pc' := 12) (v := (1 : Int32)) hc rfl zki_1 rfl ?_
      refine g_iconst (pc' := 13) (v := (5 : Int32)) hc rfl zki_5 rfl ?_
      refine z_stat (as := [.int a3, .int (1 : Int32), .int (5 : Int32)]) (r := []) hc rfl rfl rfl rfl zco_136 rfl rfl rfl ?_
      refine ok_X11_checkHours (zdp hd rfl) (zwp_mono (zwp_bind h) ?_)
      rintro (⟨⟩ | E3) h
      · refine z_po (pc' := 16) (st' := []) (v := none) (L' := [(26, none, (I 26)), (29, none, (I 29)), (52, none, (I 52)), (53, some 0, fun _ => (I 53 0)), (53, some 1, fun _ => (I 53 1)), (53, some 3, fun _ => (I 53 3)), (54, none, (I 54)), (55, none, (I 55)), (56, none, (I 56)), (57, none, (I 57))]) (K' := [(53, some 2, fun _ => (J 53 2))]) zco_136 rfl rfl rfl rfl rfl rfl rfl rfl ?_
        refine g_iload (pc' := 18)  hc rfl rfl rfl ?_
        refine g_iconst (pc' := 19) (v := (0 : Int32)) hc rfl zki_0 rfl ?_
        refine g_bipush (pc' := 21) (v := (10 : Int32)) hc rfl zkb_10 rfl ?_
        refine z_stat (as := [.int a4, .int (0 : Int32), .int (10 : Int32)]) (r := []) hc rfl rfl rfl rfl zco_136 rfl rfl rfl ?_
        refine ok_X11_checkHours (zdp hd rfl) (zwp_mono (zwp_bind h) ?_)
        rintro (⟨⟩ | E4) h
        · refine z_po (pc' := 24) (st' := []) (v := none) (L' := [(26, none, (I 26)), (29, none, (I 29)), (52, none, (I 52)), (53, some 0, fun _ => (I 53 0)), (53, some 1, fun _ => (I 53 1)), (53, some 3, fun _ => (I 53 3)), (54, none, (I 54)), (55, none, (I 55)), (56, none, (I 56)), (57, none, (I 57))]) (K' := [(53, some 2, fun _ => (J 53 2))]) zco_136 rfl rfl rfl rfl rfl rfl rfl rfl ?_
          refine g_iconst (pc' := 25) (v := (0 : Int32)) hc rfl zki_0 rfl ?_
          refine g_istore (pc' := 27) (ls1 := [some (.ref 0), some (.int a1), some (.int a2), some (.int a3), some (.int a4), some (.int (0 : Int32)), none, none, none, none]) hc rfl (zlt rfl) rfl rfl ?_
          refine g_iconst (pc' := 28) (v := (0 : Int32)) hc rfl zki_0 rfl ?_
          refine g_istore (pc' := 30) (ls1 := [some (.ref 0), some (.int a1), some (.int a2), some (.int a3), some (.int a4), some (.int (0 : Int32)), some (.int (0 : Int32)), none, none, none]) hc rfl (zlt rfl) rfl rfl ?_
          refine zjn (G := (fun (g : Int32 × (Nat → Int32) × Int32 × (Nat → Int32) × Int32 × (Nat → Int32) × Int32 × (Nat → Int32) × Int64 × (Nat → Int32) × (Nat → Int32) × (Nat → Int32)) => match g with | (y21, y26, y27, y28, y29, y30, y31, y32, y33, y34, y35, y36) => ∀ z22 : Option Value, znl z22 = true → ∀ z23 : Option Value, znl z23 = true → ∀ z24 : Option Value, znl z24 = true → ∀ z25 : Option Value, znl z25 = true → pm_ev C_X11_clouds (d + 1) (pm_call M cost zext d) cost (false, false) 108 1 6 Q 147 [some (.ref 0), some (.int a1), some (.int a2), some (.int a3), some (.int a4), some (.int y21), z22, z23, z24, z25] [] 0 0 (zS 19 7 I [(26, none, y35), (29, none, y36), (52, none, y34), (53, some 0, fun _ => y29), (53, some 1, fun _ => y31), (53, some 3, fun _ => y27), (54, none, y26), (55, none, y32), (56, none, y28), (57, none, y30)] J [(53, some 2, fun _ => y33)]))) (zwp_bind h) ?_ (fun h => ?_)
          · rintro ⟨y21, y26, y27, y28, y29, y30, y31, y32, y33, y34, y35, y36⟩ h z22 hz22 z23 hz23 z24 hz24 z25 hz25
            refine g_iload (pc' := 149)  hc rfl rfl rfl ?_
            replace h := zws h
            exact g_ireturn hc rfl rfl rfl (fun _ => ⟨rfl, rfl⟩) h
          refine zitr_ev (G := (fun (g : Int32 × Int32 × (Nat → Int32) × Int32 × (Nat → Int32) × Int32 × (Nat → Int32) × Int32 × (Nat → Int32) × Int64 × (Nat → Int32) × (Nat → Int32) × (Nat → Int32)) => match g with | (x5, x6, x10, x11, x12, x13, x14, x15, x16, x17, x18, x19, x20) => ∀ z7 : Option Value, znl z7 = true → ∀ z8 : Option Value, znl z8 = true → ∀ z9 : Option Value, znl z9 = true → pm_ev C_X11_clouds (d + 1) (pm_call M cost zext d) cost (false, false) 108 1 6 Q 30 [some (.ref 0), some (.int a1), some (.int a2), some (.int a3), some (.int a4), some (.int x5), some (.int x6), z7, z8, z9] [] 0 0 (zS 19 7 I [(26, none, x19), (29, none, x20), (52, none, x18), (53, some 0, fun _ => x13), (53, some 1, fun _ => x15), (53, some 3, fun _ => x11), (54, none, x10), (55, none, x16), (56, none, x12), (57, none, x14)] J [(53, some 2, fun _ => x17)]))) ?_ zFU ((0 : Int32), (0 : Int32), (I 54), (I 53 3), (I 56), (I 53 0), (I 57), (I 53 1), (I 55), (J 53 2), (I 52), (I 26), (I 29)) h none rfl none rfl none rfl
          rintro ⟨x5, x6, x10, x11, x12, x13, x14, x15, x16, x17, x18, x19, x20⟩ h z7 hz7 z8 hz8 z9 hz9
          refine g_iload (pc' := 32)  hc rfl rfl rfl ?_
          refine g_iconst (pc' := 33) (v := (1 : Int32)) hc rfl zki_1 rfl ?_
          refine g_iload_n (pc' := 34)  hc rfl rfl rfl ?_
          refine g_ishl (pc' := 35)  hc rfl rfl ?_
          refine g_icmp_ge (pc' := 38) hc rfl rfl (fun hx => ?_) (fun hx => ?_)
          · replace h := zwp_t h hx
            replace h := zwp_r h
            exact h (some (.int x6)) rfl z7 hz7 z8 hz8 z9 hz9
          · replace h := zwp_f h hx
            refine g_iconst (pc' := 39) (v := (1 : Int32)) hc rfl zki_1 rfl ?_
            refine g_istore (pc' := 41) (ls1 := [some (.ref 0), some (.int a1), some (.int a2), some (.int a3), some (.int a4), some (.int x5), some (.int x6), some (.int (1 : Int32)), z8, z9]) hc rfl (zlt rfl) rfl rfl ?_
            refine g_aload_n (pc' := 42)  hc rfl rfl rfl rfl ?_
            refine z_getR (pc' := 45)  hc rfl rfl rfl sh_0 rfl rfl ?_
            refine g_aload_n (pc' := 46)  hc rfl rfl rfl rfl ?_
            refine z_getR (pc' := 49)  hc rfl rfl rfl sh_0 rfl rfl ?_
            refine z_virt (as := [.ref 31]) (a := 53) (r := []) hc rfl rfl rfl rfl sh_53 rfl zco_68 rfl rfl rfl ?_
            refine ok_X8_copyFrom_53_31 (zdp hd rfl) (zwp_mono (zwp_bind h) ?_)
            rintro ⟨o37, o38, o39, o40, o41, o42, o43, o44⟩ h
            refine z_po (pc' := 52) (st' := []) (v := none) (L' := [(26, none, x19), (29, none, x20), (52, none, x18), (53, some 0, fun _ => o40), (53, some 1, fun _ => o42), (53, some 3, fun _ => o38), (54, none, o37), (55, none, o43), (56, none, o39), (57, none, o41)]) (K' := [(53, some 2, fun _ => o44)]) zco_68 rfl rfl rfl rfl rfl rfl rfl rfl ?_
            refine g_iconst (pc' := 53) (v := (0 : Int32)) hc rfl zki_0 rfl ?_
            refine g_istore (pc' := 55) (ls1 := [some (.ref 0), some (.int a1), some (.int a2), some (.int a3), some (.int a4), some (.int x5), some (.int x6), some (.int (1 : Int32)), some (.int (0 : Int32)), z9]) hc rfl (zlt rfl) rfl rfl ?_
            refine zjn (G := (fun (g : Int32 × (Nat → Int32) × (Nat → Int32) × Int32 × (Nat → Int32) × (Nat → Int32) × (Nat → Int32) × (Nat → Int32)) => match g with | (y55, y58, y59, y60, y61, y62, y63, y64) => ∀ z56 : Option Value, znl z56 = true → ∀ z57 : Option Value, znl z57 = true → pm_ev C_X11_clouds (d + 1) (pm_call M cost zext d) cost (false, false) 108 1 6 Q 121 [some (.ref 0), some (.int a1), some (.int a2), some (.int a3), some (.int a4), some (.int x5), some (.int x6), some (.int y55), z56, z57] [] 0 0 (zS 19 7 I [(26, none, y63), (29, none, y64), (52, none, y62), (53, some 0, fun _ => y60), (53, some 1, fun _ => o42), (53, some 3, fun _ => o38), (54, none, y58), (55, none, y61), (56, none, y59), (57, none, o41)] J [(53, some 2, fun _ => o44)]))) (zwp_bind h) ?_ (fun h => ?_)
            · rintro ⟨y55, y58, y59, y60, y61, y62, y63, y64⟩ h z56 hz56 z57 hz57
              refine g_aload_n (pc' := 122)  hc rfl rfl rfl rfl ?_
              refine z_getR (pc' := 125)  hc rfl rfl rfl sh_0 rfl rfl ?_
              refine z_getR (pc' := 128)  hc rfl rfl rfl sh_53 rfl rfl ?_
              refine g_iload_n (pc' := 129)  hc rfl rfl rfl ?_
              have hb := (zwp_bnd h).1
              replace h := (zwp_bnd h).2
              refine z_iaload (pc' := 130) (v := (y58 a1.toNatClampNeg)) hc rfl rfl sh_54 hb rfl rfl ?_
              refine g_iload_n (pc' := 131)  hc rfl rfl rfl ?_
              refine g_icmp_ne (pc' := 134) hc rfl rfl (fun hx => ?_) (fun hx => ?_)
              · replace h := zwp_f h hx
                refine g_iinc (pc' := 144) (ls1 := [some (.ref 0), some (.int a1), some (.int a2), some (.int a3), some (.int a4), some (.int x5), some (.int (x6 + (1 : Int32))), some (.int y55), z56, z57]) hc rfl rfl zki_1 (zlt rfl) rfl rfl ?_
                refine g_goto hc rfl ?_
                replace h := zwp_l h
                exact h (some (.int y55)) rfl z56 hz56 z57 hz57
              · replace h := zwp_t h hx
                refine g_iload (pc' := 136)  hc rfl rfl rfl ?_
                refine g_iload (pc' := 138)  hc rfl rfl rfl ?_
                refine g_iadd (pc' := 139)  hc rfl rfl ?_
                refine g_istore (pc' := 141) (ls1 := [some (.ref 0), some (.int a1), some (.int a2), some (.int a3), some (.int a4), some (.int (x5 + y55)), some (.int x6), some (.int y55), z56, z57]) hc rfl (zlt rfl) rfl rfl ?_
                refine g_iinc (pc' := 144) (ls1 := [some (.ref 0), some (.int a1), some (.int a2), some (.int a3), some (.int a4), some (.int (x5 + y55)), some (.int (x6 + (1 : Int32))), some (.int y55), z56, z57]) hc rfl rfl zki_1 (zlt rfl) rfl rfl ?_
                refine g_goto hc rfl ?_
                replace h := zwp_l h
                exact h (some (.int y55)) rfl z56 hz56 z57 hz57
            refine zitr_ev (G := (fun (g : Int32 × Int32 × (Nat → Int32) × (Nat → Int32) × Int32 × (Nat → Int32) × (Nat → Int32) × (Nat → Int32) × (Nat → Int32)) => match g with | (x45, x46, x48, x49, x50, x51, x52, x53, x54) => ∀ z47 : Option Value, znl z47 = true → pm_ev C_X11_clouds (d + 1) (pm_call M cost zext d) cost (false, false) 108 1 6 Q 55 [some (.ref 0), some (.int a1), some (.int a2), some (.int a3), some (.int a4), some (.int x5), some (.int x6), some (.int x45), some (.int x46), z47] [] 0 0 (zS 19 7 I [(26, none, x53), (29, none, x54), (52, none, x52), (53, some 0, fun _ => x50), (53, some 1, fun _ => o42), (53, some 3, fun _ => o38), (54, none, x48), (55, none, x51), (56, none, x49), (57, none, o41)] J [(53, some 2, fun _ => o44)]))) ?_ zFU ((1 : Int32), (0 : Int32), o37, o39, o40, o43, x18, x19, x20) h z9 hz9
            rintro ⟨x45, x46, x48, x49, x50, x51, x52, x53, x54⟩ h z47 hz47
            refine g_iload (pc' := 57)  hc rfl rfl rfl ?_
            refine g_iload_n (pc' := 58)  hc rfl rfl rfl ?_
            refine g_icmp_ge (pc' := 61) hc rfl rfl (fun hx => ?_) (fun hx => ?_)
            · replace h := zwp_t h hx
              replace h := zwp_r h
              exact h (some (.int x46)) rfl z47 hz47
            · replace h := zwp_f h hx
              refine g_iload (pc' := 63)  hc rfl rfl rfl ?_
              refine g_iload (pc' := 65)  hc rfl rfl rfl ?_
              refine g_ishr (pc' := 66)  hc rfl rfl ?_
              refine g_iconst (pc' := 67) (v := (1 : Int32)) hc rfl zki_1 rfl ?_
              refine g_iand (pc' := 68)  hc rfl rfl ?_
              refine zjn (G := (fun (j65 : Int32) => pm_ev C_X11_clouds (d + 1) (pm_call M cost zext d) cost (false, false) 108 1 6 Q 76 [some (.ref 0), some (.int a1), some (.int a2), some (.int a3), some (.int a4), some (.int x5), some (.int x6), some (.int x45), some (.int x46), z47] [.int j65] 0 0 (zS 19 7 I [(26, none, x53), (29, none, x54), (52, none, x52), (53, some 0, fun _ => x50), (53, some 1, fun _ => o42), (53, some 3, fun _ => o38), (54, none, x48), (55, none, x51), (56, none, x49), (57, none, o41)] J [(53, some 2, fun _ => o44)]))) (zwp_bind h) ?_ (fun h => ?_)
              · rintro j65 h
                refine g_istore (pc' := 78) (ls1 := [some (.ref 0), some (.int a1), some (.int a2), some (.int a3), some (.int a4), some (.int x5), some (.int x6), some (.int x45), some (.int x46), some (.int j65)]) hc rfl (zlt rfl) rfl rfl ?_
                refine g_iload (pc' := 80)  hc rfl rfl rfl ?_
                refine g_iload (pc' := 82)  hc rfl rfl rfl ?_
                refine zjn (G := (fun (j66 : Int32) => pm_ev C_X11_clouds (d + 1) (pm_call M cost zext d) cost (false, false) 108 1 6 Q 95 [some (.ref 0), some (.int a1), some (.int a2), some (.int a3), some (.int a4), some (.int x5), some (.int x6), some (.int x45), some (.int x46), some (.int j65)] [.int j66, .int x45] 0 0 (zS 19 7 I [(26, none, x53), (29, none, x54), (52, none, x52), (53, some 0, fun _ => x50), (53, some 1, fun _ => o42), (53, some 3, fun _ => o38), (54, none, x48), (55, none, x51), (56, none, x49), (57, none, o41)] J [(53, some 2, fun _ => o44)]))) (zwp_bind h) ?_ (fun h => ?_)
                · rintro j66 h
                  refine g_imul (pc' := 96)  hc rfl rfl ?_
                  refine g_istore (pc' := 98) (ls1 := [some (.ref 0), some (.int a1), some (.int a2), some (.int a3), some (.int a4), some (.int x5), some (.int x6), some (.int (x45 * j66)), some (.int x46), some (.int j65)]) hc rfl (zlt rfl) rfl rfl ?_
                  refine g_aload_n (pc' := 99)  hc rfl rfl rfl rfl ?_
                  refine z_getR (pc' := 102)  hc rfl rfl rfl sh_0 rfl rfl ?_
                  refine g_aload_n (pc' := 103)  hc rfl rfl rfl rfl ?_
                  refine z_getR (pc' := 106)  hc rfl rfl rfl sh_0 rfl rfl ?_
                  refine g_aload_n (pc' := 107)  hc rfl rfl rfl rfl ?_
                  refine z_getR (pc' := 110)  hc rfl rfl rfl sh_0 rfl rfl ?_
                  refine g_iload (pc' := 112)  hc rfl rfl rfl ?_
                  refine z_virt (as := [.ref 19, .ref 53, .int j65]) (a := 51) (r := []) hc rfl rfl rfl rfl sh_51 rfl zco_14 rfl rfl rfl ?_
                  refine ok_X2_passHour_51_19_53 (zdp hd rfl) (zwp_mono (zwp_bind h) ?_)
                  rintro ⟨o67, o68, o69, o70, o71, o72, o73⟩ h
                  refine z_po (pc' := 115) (st' := []) (v := none) (L' := [(26, none, o67), (29, none, o68), (52, none, o73), (53, some 0, fun _ => o71), (53, some 1, fun _ => o42), (53, some 3, fun _ => o38), (54, none, o69), (55, none, o72), (56, none, o70), (57, none, o41)]) (K' := [(53, some 2, fun _ => o44)]) zco_14 rfl rfl rfl rfl rfl rfl rfl rfl ?_
                  refine g_iinc (pc' := 118) (ls1 := [some (.ref 0), some (.int a1), some (.int a2), some (.int a3), some (.int a4), some (.int x5), some (.int x6), some (.int (x45 * j66)), some (.int (x46 + (1 : Int32))), some (.int j65)]) hc rfl rfl zki_1 (zlt rfl) rfl rfl ?_
                  refine g_goto hc rfl ?_
                  replace h := zwp_l h
                  exact h (some (.int j65)) rfl
                refine g_if_eq (pc' := 85) hc rfl rfl (fun hx => ?_) (fun hx => ?_)
                · replace h := zwp_t h hx
                  refine g_bipush (pc' := 92) (v := (10 : Int32)) hc rfl zkb_10 rfl ?_
                  refine g_iload (pc' := 94)  hc rfl rfl rfl ?_
                  refine g_isub (pc' := 95)  hc rfl rfl ?_
                  replace h := zws h
                  exact h
                · replace h := zwp_f h hx
                  refine g_iload (pc' := 87)  hc rfl rfl rfl ?_
                  refine g_goto hc rfl ?_
                  replace h := zws h
                  exact h
              refine g_if_eq (pc' := 71) hc rfl rfl (fun hx => ?_) (fun hx => ?_)
              · replace h := zwp_t h hx
                refine g_iconst (pc' := 76) (v := (0 : Int32)) hc rfl zki_0 rfl ?_
                replace h := zws h
                exact h
              · replace h := zwp_f h hx
                refine g_iconst (pc' := 72) (v := (1 : Int32)) hc rfl zki_1 rfl ?_
                refine g_goto hc rfl ?_
                replace h := zws h
                exact h
        · replace h := zws h
          exact z_pox (L' := [(26, none, (I 26)), (29, none, (I 29)), (52, none, (I 52)), (53, some 0, fun _ => (I 53 0)), (53, some 1, fun _ => (I 53 1)), (53, some 3, fun _ => (I 53 3)), (54, none, (I 54)), (55, none, (I 55)), (56, none, (I 56)), (57, none, (I 57))]) (K' := [(53, some 2, fun _ => (J 53 2))]) rfl rfl rfl rfl rfl rfl rfl h
      · replace h := zws h
        exact z_pox (L' := [(26, none, (I 26)), (29, none, (I 29)), (52, none, (I 52)), (53, some 0, fun _ => (I 53 0)), (53, some 1, fun _ => (I 53 1)), (53, some 3, fun _ => (I 53 3)), (54, none, (I 54)), (55, none, (I 55)), (56, none, (I 56)), (57, none, (I 57))]) (K' := [(53, some 2, fun _ => (J 53 2))]) rfl rfl rfl rfl rfl rfl rfl h
    · replace h := zws h
      exact z_pox (L' := [(26, none, (I 26)), (29, none, (I 29)), (52, none, (I 52)), (53, some 0, fun _ => (I 53 0)), (53, some 1, fun _ => (I 53 1)), (53, some 3, fun _ => (I 53 3)), (54, none, (I 54)), (55, none, (I 55)), (56, none, (I 56)), (57, none, (I 57))]) (K' := [(53, some 2, fun _ => (J 53 2))]) rfl rfl rfl rfl rfl rfl rfl h
  · replace h := zws h
    exact z_pox (L' := [(26, none, (I 26)), (29, none, (I 29)), (52, none, (I 52)), (53, some 0, fun _ => (I 53 0)), (53, some 1, fun _ => (I 53 1)), (53, some 3, fun _ => (I 53 3)), (54, none, (I 54)), (55, none, (I 55)), (56, none, (I 56)), (57, none, (I 57))]) (K' := [(53, some 2, fun _ => (J 53 2))]) rfl rfl rfl rfl rfl rfl rfl h
set_option maxRecDepth 4000 in
theorem ok_L_clouds_0_107_q {I : pI} {J : pJ} {a1 : Int32} {a2 : Int32} {a3 : Int32} {a4 : Int32} {Q : pQ} {d : Nat} (hd : 9 ≤ d) (h : zwp (f_L_clouds a1 a2 a3 a4 1 (J 107) (I 54) (I 53 3) (I 56) (I 53 0) (I 57) (I 53 1) (I 55) (J 53 2) (I 52) (I 32) (I 31 3) (I 34) (I 31 0) (I 35) (I 31 1) (I 33) (J 31 2) (I 19 3) (I 27) (I 25 2) (I 26) (I 19 1) (I 30) (I 28 2) (I 29) (I 24) (I 19 9) (I 21) (I 22) (I 19 0)) (fun w => match w with | (r, o0, o1, o2, o3, o4, o5, o6, o7, o8, o9, o10, o11) => Q (.inl (some (.int r))) (zS 19 7 I [(26, none, o10), (29, none, o11), (52, none, o9), (53, some 0, fun _ => o4), (53, some 1, fun _ => o6), (53, some 3, fun _ => o2), (54, none, o1), (55, none, o7), (56, none, o3), (57, none, o5)] J [(53, some 2, fun _ => o8), (107, none, o0)]))) : pm_call M cost zext d 293 [.ref 0, .int a1, .int a2, .int a3, .int a4, .ref 107] (pm_st 108 (shp 19 7) I J) Q := by
  obtain ⟨d, rfl⟩ := zd1 hd rfl
  have hc := pm_call_m (M := M) (cost := cost) zext_m d
  refine z_in (L := [(26, none, (I 26)), (29, none, (I 29)), (52, none, (I 52)), (53, some 0, fun _ => (I 53 0)), (53, some 1, fun _ => (I 53 1)), (53, some 3, fun _ => (I 53 3)), (54, none, (I 54)), (55, none, (I 55)), (56, none, (I 56)), (57, none, (I 57))]) (K := [(53, some 2, fun _ => (J 53 2)), (107, none, (J 107))]) (ls := [some (.ref 0), some (.int a1), some (.int a2), some (.int a3), some (.int a4), some (.ref 107), none]) zmt_293 zco_293 rfl rfl (zid_a (zid_a (zid_a (zid_s (zid_s (zid_s (zid_a (zid_a (zid_a (zid_a zid_n)))))))))) (zid_s (zid_a zid_n)) ?_
  delta f_L_clouds at h
  refine g_aload (pc' := 2)  hc rfl rfl rfl rfl ?_
  refine g_iconst (pc' := 3) (v := (0 : Int32)) hc rfl zki_0 rfl ?_
  refine g_aload_n (pc' := 4)  hc rfl rfl rfl rfl ?_
  refine g_iload_n (pc' := 5)  hc rfl rfl rfl ?_
  refine g_iload_n (pc' := 6)  hc rfl rfl rfl ?_
  refine g_iload_n (pc' := 7)  hc rfl rfl rfl ?_
  refine g_iload (pc' := 9)  hc rfl rfl rfl ?_
  refine z_virt (as := [.int a1, .int a2, .int a3, .int a4]) (a := 0) (r := [.int (0 : Int32), .ref 107]) hc rfl rfl rfl rfl sh_0 rfl zco_124 rfl rfl rfl ?_
  refine ok_X11_clouds_0_q (zdp hd rfl) (zwp_mono (zwp_bind h) ?_)
  rintro ⟨(r12 | E13), o1, o2, o3, o4, o5, o6, o7, o8, o9, o10, o11⟩ h
  · refine z_po (pc' := 12) (st' := [.int r12, .int (0 : Int32), .ref 107]) (v := (some (.int r12))) (L' := [(26, none, o10), (29, none, o11), (52, none, o9), (53, some 0, fun _ => o4), (53, some 1, fun _ => o6), (53, some 3, fun _ => o2), (54, none, o1), (55, none, o7), (56, none, o3), (57, none, o5)]) (K' := [(53, some 2, fun _ => o8), (107, none, (J 107))]) zco_124 rfl rfl rfl rfl rfl rfl rfl rfl ?_
    refine g_i2l (pc' := 13)  hc rfl rfl ?_
    have hb := (zwp_bnd h).1
    replace h := (zwp_bnd h).2
    refine z_lastore (pc' := 14) (g := (J 107)) (K' := [(53, some 2, fun _ => o8), (107, none, (vp_updL ((J 107)) (0 : Int32).toNatClampNeg r12.toInt64))]) hc rfl rfl sh_107 hb rfl rfl rfl rfl ?_
    refine g_goto hc rfl ?_
    refine g_iconst (pc' := 26) (v := (0 : Int32)) hc rfl zki_0 rfl ?_
    replace h := zws h
    exact g_ireturn hc rfl rfl rfl (fun _ => ⟨rfl, rfl⟩) h
  · by_cases hE : E13 = x_N
    · replace h := zwp_t h hE
      replace h := zws h
      exact z_poh (L' := [(26, none, o10), (29, none, o11), (52, none, o9), (53, some 0, fun _ => o4), (53, some 1, fun _ => o6), (53, some 3, fun _ => o2), (54, none, o1), (55, none, o7), (56, none, o3), (57, none, o5)]) (K' := [(53, some 2, fun _ => o8), (107, none, (J 107))]) (zhd2a (e := 14) (pc := 9) rfl hE) rfl rfl rfl rfl rfl rfl rfl rfl h
    replace h := zwp_f h hE
    have hN := hE
    by_cases hE : E13 = x_I
    · replace h := zwp_t h hE
      replace h := zws h
      exact z_poh (L' := [(26, none, o10), (29, none, o11), (52, none, o9), (53, some 0, fun _ => o4), (53, some 1, fun _ => o6), (53, some 3, fun _ => o2), (54, none, o1), (55, none, o7), (56, none, o3), (57, none, o5)]) (K' := [(53, some 2, fun _ => o8), (107, none, (J 107))]) (zhd2b (e := 14) (pc := 9) rfl hN hE) rfl rfl rfl rfl rfl rfl rfl rfl h
    replace h := zwp_f h hE
    exact (zwn h).elim
set_option maxRecDepth 4000 in
theorem ok_X11_play_0_q {I : pI} {J : pJ} {a1 : Int32} {a2 : Int32} {a3 : Int32} {Q : pQ} {d : Nat} (hd : 6 ≤ d) (h : zwp (f_X11_play a1 a2 a3 (I 54) (I 53 3) (I 56) (I 53 0) (I 57) (I 53 1) (I 55) (J 53 2) (I 74) (I 52) (I 32) (I 31 3) (I 34) (I 31 0) (I 35) (I 31 1) (I 33) (J 31 2) (I 19 12) (I 19 3) (I 27) (I 25 2) (I 26) (I 19 1) (I 30) (I 28 2) (I 29) (I 24) (I 19 9) (I 21) (I 22) (I 19 0)) (fun w => match w with | (o0, o1, o2, o3, o4, o5, o6, o7, o8, o9, o10, o11) => Q (.inl none) (zS 19 7 I [(26, none, o10), (29, none, o11), (52, none, o9), (53, some 0, fun _ => o3), (53, some 1, fun _ => o5), (53, some 3, fun _ => o1), (54, none, o0), (55, none, o6), (56, none, o2), (57, none, o4), (74, none, o8)] J [(53, some 2, fun _ => o7)]))) : pm_call M cost zext d 143 [.ref 0, .int a1, .int a2, .int a3] (pm_st 108 (shp 19 7) I J) Q := by
  obtain ⟨d, rfl⟩ := zd1 hd rfl
  have hc := pm_call_m (M := M) (cost := cost) zext_m d
  refine z_in (L := [(26, none, (I 26)), (29, none, (I 29)), (52, none, (I 52)), (53, some 0, fun _ => (I 53 0)), (53, some 1, fun _ => (I 53 1)), (53, some 3, fun _ => (I 53 3)), (54, none, (I 54)), (55, none, (I 55)), (56, none, (I 56)), (57, none, (I 57)), (74, none, (I 74))]) (K := [(53, some 2, fun _ => (J 53 2))]) (ls := [some (.ref 0), some (.int a1), some (.int a2), some (.int a3), none, none, none]) zmt_143 zco_143 rfl rfl (zid_a (zid_a (zid_a (zid_s (zid_s (zid_s (zid_a (zid_a (zid_a (zid_a (zid_a zid_n))))))))))) (zid_s zid_n) ?_
  delta f_X11_play at h
  refine g_aload_n (pc' := 1)  hc rfl rfl rfl rfl ?_
  refine z_getR (pc' := 4)  hc rfl rfl rfl sh_0 rfl rfl ?_
  refine g_aload_n (pc' := 5)  hc rfl rfl rfl rfl ?_
  refine z_getR (pc' := 8)  hc rfl rfl rfl sh_0 rfl rfl ?_
  refine z_virt (as := [.ref 31]) (a := 53) (r := []) hc rfl rfl rfl rfl sh_53 rfl zco_68 rfl rfl rfl ?_
  refine ok_X8_copyFrom_53_31 (zdp hd rfl) (zwp_mono (zwp_bind h) ?_)
  rintro ⟨o1, o2, o3, o4, o5, o6, o7, o8⟩ h
  refine z_po (pc' := 11) (st' := []) (v := none) (L' := [(26, none, (I 26)), (29, none, (I 29)), (52, none, (I 52)), (53, some 0, fun _ => o4), (53, some 1, fun _ => o6), (53, some 3, fun _ => o2), (54, none, o1), (55, none, o7), (56, none, o3), (57, none, o5), (74, none, (I 74))]) (K' := [(53, some 2, fun _ => o8)]) zco_68 rfl rfl rfl rfl rfl rfl rfl rfl ?_
  refine g_iload_n (pc' := 12)  hc rfl rfl rfl ?_
  refine g_iconst (pc' := 13) (v := (2 : Int32)) hc rfl zki_2 rfl ?_
  refine g_iand (pc' := 14)  hc rfl rfl ?_
  refine zjn (G := (fun (j9 : (Nat → Int32)) => pm_ev C_X11_play (d + 1) (pm_call M cost zext d) cost (false, false) 108 0 0 Q 27 [some (.ref 0), some (.int a1), some (.int a2), some (.int a3), none, none, none] [] 0 0 (zS 19 7 I [(26, none, (I 26)), (29, none, (I 29)), (52, none, (I 52)), (53, some 0, fun _ => o4), (53, some 1, fun _ => o6), (53, some 3, fun _ => o2), (54, none, o1), (55, none, o7), (56, none, j9), (57, none, o5), (74, none, (I 74))] J [(53, some 2, fun _ => o8)]))) (zwp_bind h) ?_ (fun h => ?_)
  · rintro j9 h
    refine g_iload_n (pc' := 28)  hc rfl rfl rfl ?_
    refine g_iconst (pc' := 29) (v := (1 : Int32)) hc rfl zki_1 rfl ?_
    refine g_iand (pc' := 30)  hc rfl rfl ?_
    refine zjn (G := (fun (j10 : (Nat → Int32)) => pm_ev C_X11_play (d + 1) (pm_call M cost zext d) cost (false, false) 108 0 0 Q 43 [some (.ref 0), some (.int a1), some (.int a2), some (.int a3), none, none, none] [] 0 0 (zS 19 7 I [(26, none, (I 26)), (29, none, (I 29)), (52, none, (I 52)), (53, some 0, fun _ => o4), (53, some 1, fun _ => o6), (53, some 3, fun _ => o2), (54, none, o1), (55, none, o7), (56, none, j10), (57, none, o5), (74, none, (I 74))] J [(53, some 2, fun _ => o8)]))) (zwp_bind h) ?_ (fun h => ?_)
    · rintro j10 h
      refine g_iconst (pc' := 44) (v := (0 : Int32)) hc rfl zki_0 rfl ?_
      refine g_istore (pc' := 46) (ls1 := [some (.ref 0), some (.int a1), some (.int a2), some (.int a3), some (.int (0 : Int32)), none, none]) hc rfl (zlt rfl) rfl rfl ?_
      refine g_iconst (pc' := 47) (v := (0 : Int32)) hc rfl zki_0 rfl ?_
      refine g_istore (pc' := 49) (ls1 := [some (.ref 0), some (.int a1), some (.int a2), some (.int a3), some (.int (0 : Int32)), some (.int (0 : Int32)), none]) hc rfl (zlt rfl) rfl rfl ?_
      refine g_iconst (pc' := 50) (v := (0 : Int32)) hc rfl zki_0 rfl ?_
      refine g_istore (pc' := 52) (ls1 := [some (.ref 0), some (.int a1), some (.int a2), some (.int a3), some (.int (0 : Int32)), some (.int (0 : Int32)), some (.int (0 : Int32))]) hc rfl (zlt rfl) rfl rfl ?_
      refine zjn (G := (fun (g : Int32 × Int32 × (Nat → Int32) × (Nat → Int32) × Int32 × (Nat → Int32) × (Nat → Int32) × (Nat → Int32) × (Nat → Int32)) => match g with | (y21, y22, y24, y25, y26, y27, y28, y29, y30) => ∀ z23 : Option Value, znl z23 = true → pm_ev C_X11_play (d + 1) (pm_call M cost zext d) cost (false, false) 108 0 0 Q 111 [some (.ref 0), some (.int a1), some (.int a2), some (.int a3), some (.int y21), some (.int y22), z23] [] 0 0 (zS 19 7 I [(26, none, y29), (29, none, y30), (52, none, y28), (53, some 0, fun _ => y26), (53, some 1, fun _ => o6), (53, some 3, fun _ => o2), (54, none, y24), (55, none, y27), (56, none, y25), (57, none, o5), (74, none, (I 74))] J [(53, some 2, fun _ => o8)]))) (zwp_bind h) ?_ (fun h => ?_)
      · rintro ⟨y21, y22, y24, y25, y26, y27, y28, y29, y30⟩ h z23 hz23
        refine g_aload_n (pc' := 112)  hc rfl rfl rfl rfl ?_
        refine z_getR (pc' := 115)  hc rfl rfl rfl sh_0 rfl rfl ?_
        refine g_iconst (pc' := 116) (v := (2 : Int32)) hc rfl zki_2 rfl ?_
        refine g_iload_n (pc' := 117)  hc rfl rfl rfl ?_
        refine g_imul (pc' := 118)  hc rfl rfl ?_
        refine g_iload (pc' := 120)  hc rfl rfl rfl ?_
        refine g_aload_n (pc' := 121)  hc rfl rfl rfl rfl ?_
        refine z_getR (pc' := 124)  hc rfl rfl rfl sh_0 rfl rfl ?_
        refine z_getR (pc' := 127)  hc rfl rfl rfl sh_53 rfl rfl ?_
        refine g_iload_n (pc' := 128)  hc rfl rfl rfl ?_
        have hb := (zwp_bnd h).1
        replace h := (zwp_bnd h).2
        refine z_iaload (pc' := 129) (v := (y27 a1.toNatClampNeg)) hc rfl rfl sh_55 hb rfl rfl ?_
        refine g_iconst (pc' := 130) (v := (2 : Int32)) hc rfl zki_2 rfl ?_
        refine g_idiv (pc' := 131)  hc rfl (by decide) rfl ?_
        refine g_isub (pc' := 132)  hc rfl rfl ?_
        have hb := (zwp_bnd h).1
        replace h := (zwp_bnd h).2
        refine z_iastore (pc' := 133) (g := (I 74)) (L' := [(26, none, y29), (29, none, y30), (52, none, y28), (53, some 0, fun _ => y26), (53, some 1, fun _ => o6), (53, some 3, fun _ => o2), (54, none, y24), (55, none, y27), (56, none, y25), (57, none, o5), (74, none, (upd ((I 74)) ((2 : Int32) * a3).toNatClampNeg (y21 - ((y27 a1.toNatClampNeg) / (2 : Int32)))))]) hc rfl rfl sh_74 hb rfl rfl rfl rfl ?_
        refine g_aload_n (pc' := 134)  hc rfl rfl rfl rfl ?_
        refine z_getR (pc' := 137)  hc rfl rfl rfl sh_0 rfl rfl ?_
        refine g_iconst (pc' := 138) (v := (2 : Int32)) hc rfl zki_2 rfl ?_
        refine g_iload_n (pc' := 139)  hc rfl rfl rfl ?_
        refine g_imul (pc' := 140)  hc rfl rfl ?_
        refine g_iconst (pc' := 141) (v := (1 : Int32)) hc rfl zki_1 rfl ?_
        refine g_iadd (pc' := 142)  hc rfl rfl ?_
        refine g_iload (pc' := 144)  hc rfl rfl rfl ?_
        refine g_aload_n (pc' := 145)  hc rfl rfl rfl rfl ?_
        refine z_getR (pc' := 148)  hc rfl rfl rfl sh_0 rfl rfl ?_
        refine z_getR (pc' := 151)  hc rfl rfl rfl sh_53 rfl rfl ?_
        refine g_iload_n (pc' := 152)  hc rfl rfl rfl ?_
        have hb := (zwp_bnd h).1
        replace h := (zwp_bnd h).2
        refine z_iaload (pc' := 153) (v := (y27 a2.toNatClampNeg)) hc rfl rfl sh_55 hb rfl rfl ?_
        refine g_iconst (pc' := 154) (v := (2 : Int32)) hc rfl zki_2 rfl ?_
        refine g_idiv (pc' := 155)  hc rfl (by decide) rfl ?_
        refine g_isub (pc' := 156)  hc rfl rfl ?_
        have hb := (zwp_bnd h).1
        replace h := (zwp_bnd h).2
        refine z_iastore (pc' := 157) (g := (upd ((I 74)) ((2 : Int32) * a3).toNatClampNeg (y21 - ((y27 a1.toNatClampNeg) / (2 : Int32))))) (L' := [(26, none, y29), (29, none, y30), (52, none, y28), (53, some 0, fun _ => y26), (53, some 1, fun _ => o6), (53, some 3, fun _ => o2), (54, none, y24), (55, none, y27), (56, none, y25), (57, none, o5), (74, none, (upd (upd ((I 74)) ((2 : Int32) * a3).toNatClampNeg (y21 - ((y27 a1.toNatClampNeg) / (2 : Int32)))) (((2 : Int32) * a3) + (1 : Int32)).toNatClampNeg (y22 - ((y27 a2.toNatClampNeg) / (2 : Int32)))))]) hc rfl rfl sh_74 hb rfl rfl rfl rfl ?_
        replace h := zws h
        exact g_return hc rfl rfl (fun _ => ⟨rfl, rfl⟩) h
      refine zitr_ev (G := (fun (g : Int32 × Int32 × Int32 × (Nat → Int32) × (Nat → Int32) × Int32 × (Nat → Int32) × (Nat → Int32) × (Nat → Int32) × (Nat → Int32)) => match g with | (x11, x12, x13, x14, x15, x16, x17, x18, x19, x20) => pm_ev C_X11_play (d + 1) (pm_call M cost zext d) cost (false, false) 108 0 0 Q 52 [some (.ref 0), some (.int a1), some (.int a2), some (.int a3), some (.int x11), some (.int x12), some (.int x13)] [] 0 0 (zS 19 7 I [(26, none, x19), (29, none, x20), (52, none, x18), (53, some 0, fun _ => x16), (53, some 1, fun _ => o6), (53, some 3, fun _ => o2), (54, none, x14), (55, none, x17), (56, none, x15), (57, none, o5), (74, none, (I 74))] J [(53, some 2, fun _ => o8)]))) ?_ zFU ((0 : Int32), (0 : Int32), (0 : Int32), o1, j10, o4, o7, (I 52), (I 26), (I 29)) h
      rintro ⟨x11, x12, x13, x14, x15, x16, x17, x18, x19, x20⟩ h
      refine g_iload (pc' := 54)  hc rfl rfl rfl ?_
      refine g_bipush (pc' := 56) (v := (8 : Int32)) hc rfl zkb_8 rfl ?_
      refine g_icmp_ge (pc' := 59) hc rfl rfl (fun hx => ?_) (fun hx => ?_)
      · replace h := zwp_t h hx
        replace h := zwp_r h
        exact h (some (.int x13)) rfl
      · replace h := zwp_f h hx
        refine g_aload_n (pc' := 60)  hc rfl rfl rfl rfl ?_
        refine z_virt (as := []) (a := 0) (r := []) hc rfl rfl rfl rfl sh_0 rfl zco_140 rfl rfl rfl ?_
        refine ok_X11_passFuture_0_q (zdp hd rfl) (zwp_mono (zwp_bind h) ?_)
        rintro ⟨o31, o32, o33, o34, o35, o36, o37⟩ h
        refine z_po (pc' := 63) (st' := []) (v := none) (L' := [(26, none, o36), (29, none, o37), (52, none, o35), (53, some 0, fun _ => o33), (53, some 1, fun _ => o6), (53, some 3, fun _ => o2), (54, none, o31), (55, none, o34), (56, none, o32), (57, none, o5), (74, none, (I 74))]) (K' := [(53, some 2, fun _ => o8)]) zco_140 rfl rfl rfl rfl rfl rfl rfl rfl ?_
        refine g_iload (pc' := 65)  hc rfl rfl rfl ?_
        refine g_aload_n (pc' := 66)  hc rfl rfl rfl rfl ?_
        refine z_getR (pc' := 69)  hc rfl rfl rfl sh_0 rfl rfl ?_
        refine g_iload_n (pc' := 70)  hc rfl rfl rfl ?_
        refine z_virt (as := [.int a1]) (a := 53) (r := [.int x11]) hc rfl rfl rfl rfl sh_53 rfl zco_73 rfl rfl rfl ?_
        refine ok_X8_othersWith_53 (zdp hd rfl) (zwp_mono (zwp_bind h) ?_)
        rintro r38 h
        refine z_po (pc' := 73) (st' := [.int r38, .int x11]) (v := (some (.int r38))) (L' := [(26, none, o36), (29, none, o37), (52, none, o35), (53, some 0, fun _ => o33), (53, some 1, fun _ => o6), (53, some 3, fun _ => o2), (54, none, o31), (55, none, o34), (56, none, o32), (57, none, o5), (74, none, (I 74))]) (K' := [(53, some 2, fun _ => o8)]) zco_73 rfl rfl rfl rfl rfl rfl rfl rfl ?_
        refine zjn (G := (fun (j39 : Int32) => pm_ev C_X11_play (d + 1) (pm_call M cost zext d) cost (false, false) 108 0 0 Q 81 [some (.ref 0), some (.int a1), some (.int a2), some (.int a3), some (.int x11), some (.int x12), some (.int x13)] [.int j39, .int x11] 0 0 (zS 19 7 I [(26, none, o36), (29, none, o37), (52, none, o35), (53, some 0, fun _ => o33), (53, some 1, fun _ => o6), (53, some 3, fun _ => o2), (54, none, o31), (55, none, o34), (56, none, o32), (57, none, o5), (74, none, (I 74))] J [(53, some 2, fun _ => o8)]))) (zwp_bind h) ?_ (fun h => ?_)
        · rintro j39 h
          refine g_iadd (pc' := 82)  hc rfl rfl ?_
          refine g_istore (pc' := 84) (ls1 := [some (.ref 0), some (.int a1), some (.int a2), some (.int a3), some (.int (x11 + j39)), some (.int x12), some (.int x13)]) hc rfl (zlt rfl) rfl rfl ?_
          refine g_iload (pc' := 86)  hc rfl rfl rfl ?_
          refine g_aload_n (pc' := 87)  hc rfl rfl rfl rfl ?_
          refine z_getR (pc' := 90)  hc rfl rfl rfl sh_0 rfl rfl ?_
          refine g_iload_n (pc' := 91)  hc rfl rfl rfl ?_
          refine z_virt (as := [.int a2]) (a := 53) (r := [.int x12]) hc rfl rfl rfl rfl sh_53 rfl zco_73 rfl rfl rfl ?_
          refine ok_X8_othersWith_53 (zdp hd rfl) (zwp_mono (zwp_bind h) ?_)
          rintro r40 h
          refine z_po (pc' := 94) (st' := [.int r40, .int x12]) (v := (some (.int r40))) (L' := [(26, none, o36), (29, none, o37), (52, none, o35), (53, some 0, fun _ => o33), (53, some 1, fun _ => o6), (53, some 3, fun _ => o2), (54, none, o31), (55, none, o34), (56, none, o32), (57, none, o5), (74, none, (I 74))]) (K' := [(53, some 2, fun _ => o8)]) zco_73 rfl rfl rfl rfl rfl rfl rfl rfl ?_
          refine zjn (G := (fun (j41 : Int32) => pm_ev C_X11_play (d + 1) (pm_call M cost zext d) cost (false, false) 108 0 0 Q 102 [some (.ref 0), some (.int a1), some (.int a2), some (.int a3), some (.int (x11 + j39)), some (.int x12), some (.int x13)] [.int j41, .int x12] 0 0 (zS 19 7 I [(26, none, o36), (29, none, o37), (52, none, o35), (53, some 0, fun _ => o33), (53, some 1, fun _ => o6), (53, some 3, fun _ => o2), (54, none, o31), (55, none, o34), (56, none, o32), (57, none, o5), (74, none, (I 74))] J [(53, some 2, fun _ => o8)]))) (zwp_bind h) ?_ (fun h => ?_)
          · rintro j41 h
            refine g_iadd (pc' := 103)  hc rfl rfl ?_
            refine g_istore (pc' := 105) (ls1 := [some (.ref 0), some (.int a1), some (.int a2), some (.int a3), some (.int (x11 + j39)), some (.int (x12 + j41)), some (.int x13)]) hc rfl (zlt rfl) rfl rfl ?_
            refine g_iinc (pc' := 108) (ls1 := [some (.ref 0), some (.int a1), some (.int a2), some (.int a3), some (.int (x11 + j39)), some (.int (x12 + j41)), some (.int (x13 + (1 : Int32)))]) hc rfl rfl zki_1 (zlt rfl) rfl rfl ?_
            refine g_goto hc rfl ?_
            replace h := zwp_l h
            exact h
          refine g_if_le (pc' := 97) hc rfl rfl (fun hx => ?_) (fun hx => ?_)
          · replace h := zwp_t h hx
            refine g_iconst (pc' := 102) (v := (0 : Int32)) hc rfl zki_0 rfl ?_
            replace h := zws h
            exact h
          · replace h := zwp_f h hx
            refine g_iconst (pc' := 98) (v := (2 : Int32)) hc rfl zki_2 rfl ?_
            refine g_goto hc rfl ?_
            replace h := zws h
            exact h
        refine g_if_le (pc' := 76) hc rfl rfl (fun hx => ?_) (fun hx => ?_)
        · replace h := zwp_t h hx
          refine g_iconst (pc' := 81) (v := (0 : Int32)) hc rfl zki_0 rfl ?_
          replace h := zws h
          exact h
        · replace h := zwp_f h hx
          refine g_iconst (pc' := 77) (v := (2 : Int32)) hc rfl zki_2 rfl ?_
          refine g_goto hc rfl ?_
          replace h := zws h
          exact h
    refine g_if_eq (pc' := 33) hc rfl rfl (fun hx => ?_) (fun hx => ?_)
    · replace h := zwp_t h hx
      replace h := zws h
      exact h
    · replace h := zwp_f h hx
      refine g_aload_n (pc' := 34)  hc rfl rfl rfl rfl ?_
      refine z_getR (pc' := 37)  hc rfl rfl rfl sh_0 rfl rfl ?_
      refine z_getR (pc' := 40)  hc rfl rfl rfl sh_53 rfl rfl ?_
      refine g_iload_n (pc' := 41)  hc rfl rfl rfl ?_
      refine g_iconst (pc' := 42) (v := (3 : Int32)) hc rfl zki_3 rfl ?_
      have hb := (zwp_bnd h).1
      replace h := (zwp_bnd h).2
      refine z_iastore (pc' := 43) (g := j9) (L' := [(26, none, (I 26)), (29, none, (I 29)), (52, none, (I 52)), (53, some 0, fun _ => o4), (53, some 1, fun _ => o6), (53, some 3, fun _ => o2), (54, none, o1), (55, none, o7), (56, none, (upd j9 a2.toNatClampNeg (3 : Int32))), (57, none, o5), (74, none, (I 74))]) hc rfl rfl sh_56 hb rfl rfl rfl rfl ?_
      replace h := zws h
      exact h
  refine g_if_eq (pc' := 17) hc rfl rfl (fun hx => ?_) (fun hx => ?_)
  · replace h := zwp_t h hx
    replace h := zws h
    exact h
  · replace h := zwp_f h hx
    refine g_aload_n (pc' := 18)  hc rfl rfl rfl rfl ?_
    refine z_getR (pc' := 21)  hc rfl rfl rfl sh_0 rfl rfl ?_
    refine z_getR (pc' := 24)  hc rfl rfl rfl sh_53 rfl rfl ?_
    refine g_iload_n (pc' := 25)  hc rfl rfl rfl ?_
    refine g_iconst (pc' := 26) (v := (3 : Int32)) hc rfl zki_3 rfl ?_
    have hb := (zwp_bnd h).1
    replace h := (zwp_bnd h).2
    refine z_iastore (pc' := 27) (g := o3) (L' := [(26, none, (I 26)), (29, none, (I 29)), (52, none, (I 52)), (53, some 0, fun _ => o4), (53, some 1, fun _ => o6), (53, some 3, fun _ => o2), (54, none, o1), (55, none, o7), (56, none, (upd o3 a1.toNatClampNeg (3 : Int32))), (57, none, o5), (74, none, (I 74))]) hc rfl rfl sh_56 hb rfl rfl rfl rfl ?_
    replace h := zws h
    exact h
set_option maxRecDepth 4000 in
theorem ok_X11_game_0_q {I : pI} {J : pJ} {a1 : Int32} {a2 : Int32} {a3 : Int32} {Q : pQ} {d : Nat} (hd : 8 ≤ d) (h : zwp (f_X11_game a1 a2 a3 (I 54) (I 53 3) (I 56) (I 53 0) (I 57) (I 53 1) (I 55) (J 53 2) (I 74) (I 52) (I 32) (I 31 3) (I 34) (I 31 0) (I 35) (I 31 1) (I 33) (J 31 2) (I 19 12) (I 19 3) (I 27) (I 25 2) (I 26) (I 19 1) (I 30) (I 28 2) (I 29) (I 24) (I 19 9) (I 21) (I 22) (I 19 0)) (fun w => match w with | (.inl r, o0, o1, o2, o3, o4, o5, o6, o7, o8, o9, o10, o11) => Q (.inl (some (.int r))) (zS 19 7 I [(26, none, o10), (29, none, o11), (52, none, o9), (53, some 0, fun _ => o3), (53, some 1, fun _ => o5), (53, some 3, fun _ => o1), (54, none, o0), (55, none, o6), (56, none, o2), (57, none, o4), (74, none, o8)] J [(53, some 2, fun _ => o7)]) | (.inr E, o0, o1, o2, o3, o4, o5, o6, o7, o8, o9, o10, o11) => Q (.inr E) (zS 19 7 I [(26, none, o10), (29, none, o11), (52, none, o9), (53, some 0, fun _ => o3), (53, some 1, fun _ => o5), (53, some 3, fun _ => o1), (54, none, o0), (55, none, o6), (56, none, o2), (57, none, o4), (74, none, o8)] J [(53, some 2, fun _ => o7)]))) : pm_call M cost zext d 125 [.ref 0, .int a1, .int a2, .int a3] (pm_st 108 (shp 19 7) I J) Q := by
  obtain ⟨d, rfl⟩ := zd1 hd rfl
  have hc := pm_call_m (M := M) (cost := cost) zext_m d
  refine z_in (L := [(26, none, (I 26)), (29, none, (I 29)), (52, none, (I 52)), (53, some 0, fun _ => (I 53 0)), (53, some 1, fun _ => (I 53 1)), (53, some 3, fun _ => (I 53 3)), (54, none, (I 54)), (55, none, (I 55)), (56, none, (I 56)), (57, none, (I 57)), (74, none, (I 74))]) (K := [(53, some 2, fun _ => (J 53 2))]) (ls := [some (.ref 0), some (.int a1), some (.int a2), some (.int a3), none, none, none]) zmt_125 zco_125 rfl rfl (zid_a (zid_a (zid_a (zid_s (zid_s (zid_s (zid_a (zid_a (zid_a (zid_a (zid_a zid_n))))))))))) (zid_s zid_n) ?_
  delta f_X11_game at h
  refine g_aload_n (pc' := 1)  hc rfl rfl rfl rfl ?_
  refine g_iload_n (pc' := 2)  hc rfl rfl rfl ?_
  refine z_virt (as := [.int a1]) (a := 0) (r := []) hc rfl rfl rfl rfl sh_0 rfl zco_133 rfl rfl rfl ?_
  refine ok_X11_checkFigure_0_q (zdp hd rfl) (zwp_mono (zwp_bind h) ?_)
  rintro (⟨⟩ | E1) h
  · refine z_po (pc' := 5) (st' := []) (v := none) (L' := [(26, none, (I 26)), (29, none, (I 29)), (52, none, (I 52)), (53, some 0, fun _ => (I 53 0)), (53, some 1, fun _ => (I 53 1)), (53, some 3, fun _ => (I 53 3)), (54, none, (I 54)), (55, none, (I 55)), (56, none, (I 56)), (57, none, (I 57)), (74, none, (I 74))]) (K' := [(53, some 2, fun _ => (J 53 2))]) zco_133 rfl rfl rfl rfl rfl rfl rfl rfl ?_
    refine g_aload_n (pc' := 6)  hc rfl rfl rfl rfl ?_
    refine g_iload_n (pc' := 7)  hc rfl rfl rfl ?_
    refine z_virt (as := [.int a2]) (a := 0) (r := []) hc rfl rfl rfl rfl sh_0 rfl zco_133 rfl rfl rfl ?_
    refine ok_X11_checkFigure_0_q (zdp hd rfl) (zwp_mono (zwp_bind h) ?_)
    rintro (⟨⟩ | E2) h
    · refine z_po (pc' := 10) (st' := []) (v := none) (L' := [(26, none, (I 26)), (29, none, (I 29)), (52, none, (I 52)), (53, some 0, fun _ => (I 53 0)), (53, some 1, fun _ => (I 53 1)), (53, some 3, fun _ => (I 53 3)), (54, none, (I 54)), (55, none, (I 55)), (56, none, (I 56)), (57, none, (I 57)), (74, none, (I 74))]) (K' := [(53, some 2, fun _ => (J 53 2))]) zco_133 rfl rfl rfl rfl rfl rfl rfl rfl ?_
      refine g_iload_n (pc' := 11)  hc rfl rfl rfl ?_
      refine g_iconst (pc' := 12) (v := (1 : Int32)) hc rfl zki_1 rfl ?_
      refine z_stat (as := [.int a3, .int (1 : Int32)]) (r := []) hc rfl rfl rfl rfl zco_135 rfl rfl rfl ?_
      refine ok_X11_checkWhat (zdp hd rfl) (zwp_mono (zwp_bind h) ?_)
      rintro (⟨⟩ | E3) h
      · refine z_po (pc' := 15) (st' := []) (v := none) (L' := [(26, none, (I 26)), (29, none, (I 29)), (52, none, (I 52)), (53, some 0, fun _ => (I 53 0)), (53, some 1, fun _ => (I 53 1)), (53, some 3, fun _ => (I 53 3)), (54, none, (I 54)), (55, none, (I 55)), (56, none, (I 56)), (57, none, (I 57)), (74, none, (I 74))]) (K' := [(53, some 2, fun _ => (J 53 2))]) zco_135 rfl rfl rfl rfl rfl rfl rfl rfl ?_
        refine g_iload_n (pc' := 16)  hc rfl rfl rfl ?_
        refine g_iload_n (pc' := 17)  hc rfl rfl rfl ?_
        refine g_icmp_ne (pc' := 20) hc rfl rfl (fun hx => ?_) (fun hx => ?_)
        · replace h := zwp_f h hx
          refine g_iconst (pc' := 32) (v := (0 : Int32)) hc rfl zki_0 rfl ?_
          refine g_istore (pc' := 34) (ls1 := [some (.ref 0), some (.int a1), some (.int a2), some (.int a3), some (.int (0 : Int32)), none, none]) hc rfl (zlt rfl) rfl rfl ?_
          refine zjn (G := (fun (g : (Nat → Int32) × Int32 × (Nat → Int32) × Int32 × (Nat → Int32) × Int32 × (Nat → Int32) × Int64 × (Nat → Int32) × (Nat → Int32) × (Nat → Int32) × (Nat → Int32)) => match g with | (y18, y19, y20, y21, y22, y23, y24, y25, y26, y27, y28, y29) => ∀ z17 : Option Value, znl z17 = true → pm_ev C_X11_game (d + 1) (pm_call M cost zext d) cost (false, false) 108 1 6 Q 54 [some (.ref 0), some (.int a1), some (.int a2), some (.int a3), z17, none, none] [] 0 0 (zS 19 7 I [(26, none, y28), (29, none, y29), (52, none, y27), (53, some 0, fun _ => y21), (53, some 1, fun _ => y23), (53, some 3, fun _ => y19), (54, none, y18), (55, none, y24), (56, none, y20), (57, none, y22), (74, none, y26)] J [(53, some 2, fun _ => y25)]))) (zwp_bind h) ?_ (fun h => ?_)
          · rintro ⟨y18, y19, y20, y21, y22, y23, y24, y25, y26, y27, y28, y29⟩ h z17 hz17
            refine g_iconst (pc' := 55) (v := (0 : Int32)) hc rfl zki_0 rfl ?_
            refine g_istore (pc' := 57) (ls1 := [some (.ref 0), some (.int a1), some (.int a2), some (.int a3), some (.int (0 : Int32)), none, none]) hc rfl (zlt rfl) rfl rfl ?_
            refine g_iconst (pc' := 58) (v := (-1 : Int32)) hc rfl zki_m1 rfl ?_
            refine g_istore (pc' := 60) (ls1 := [some (.ref 0), some (.int a1), some (.int a2), some (.int a3), some (.int (0 : Int32)), some (.int (-1 : Int32)), none]) hc rfl (zlt rfl) rfl rfl ?_
            refine g_iconst (pc' := 61) (v := (3 : Int32)) hc rfl zki_3 rfl ?_
            refine g_istore (pc' := 63) (ls1 := [some (.ref 0), some (.int a1), some (.int a2), some (.int a3), some (.int (0 : Int32)), some (.int (-1 : Int32)), some (.int (3 : Int32))]) hc rfl (zlt rfl) rfl rfl ?_
            refine zjn (G := (fun (g : Int32 × Int32) => match g with | (y33, y34) => ∀ z35 : Option Value, znl z35 = true → pm_ev C_X11_game (d + 1) (pm_call M cost zext d) cost (false, false) 108 1 6 Q 100 [some (.ref 0), some (.int a1), some (.int a2), some (.int a3), some (.int y33), some (.int y34), z35] [] 0 0 (zS 19 7 I [(26, none, y28), (29, none, y29), (52, none, y27), (53, some 0, fun _ => y21), (53, some 1, fun _ => y23), (53, some 3, fun _ => y19), (54, none, y18), (55, none, y24), (56, none, y20), (57, none, y22), (74, none, y26)] J [(53, some 2, fun _ => y25)]))) (zwp_bind h) ?_ (fun h => ?_)
            · rintro ⟨y33, y34⟩ h z35 hz35
              refine g_iload_n (pc' := 101)  hc rfl rfl rfl ?_
              refine g_if_ne (pc' := 104) hc rfl rfl (fun hx => ?_) (fun hx => ?_)
              · replace h := zwp_f h hx
                refine g_iload (pc' := 111)  hc rfl rfl rfl ?_
                replace h := zws h
                exact g_ireturn hc rfl rfl rfl (fun _ => ⟨rfl, rfl⟩) h
              · replace h := zwp_t h hx
                refine g_iload (pc' := 106)  hc rfl rfl rfl ?_
                refine g_goto hc rfl ?_
                replace h := zws h
                exact g_ireturn hc rfl rfl rfl (fun _ => ⟨rfl, rfl⟩) h
            refine zitr_ev (G := (fun (g : Int32 × Int32 × Int32) => match g with | (x30, x31, x32) => pm_ev C_X11_game (d + 1) (pm_call M cost zext d) cost (false, false) 108 1 6 Q 63 [some (.ref 0), some (.int a1), some (.int a2), some (.int a3), some (.int x30), some (.int x31), some (.int x32)] [] 0 0 (zS 19 7 I [(26, none, y28), (29, none, y29), (52, none, y27), (53, some 0, fun _ => y21), (53, some 1, fun _ => y23), (53, some 3, fun _ => y19), (54, none, y18), (55, none, y24), (56, none, y20), (57, none, y22), (74, none, y26)] J [(53, some 2, fun _ => y25)]))) ?_ zFU ((0 : Int32), (-1 : Int32), (3 : Int32)) h
            rintro ⟨x30, x31, x32⟩ h
            refine g_iload (pc' := 65)  hc rfl rfl rfl ?_
            refine g_if_lt (pc' := 68) hc rfl rfl (fun hx => ?_) (fun hx => ?_)
            · replace h := zwp_t h hx
              replace h := zwp_r h
              exact h (some (.int x32)) rfl
            · replace h := zwp_f h hx
              refine g_aload_n (pc' := 69)  hc rfl rfl rfl rfl ?_
              refine g_iload (pc' := 71)  hc rfl rfl rfl ?_
              refine z_virt (as := [.int x32]) (a := 0) (r := []) hc rfl rfl rfl rfl sh_0 rfl zco_144 rfl rfl rfl ?_
              refine ok_X11_rests_0 (zdp hd rfl) (zwp_mono (zwp_bind h) ?_)
              rintro r36 h
              refine z_po (pc' := 74) (st' := [.int r36]) (v := (some (.int r36))) (L' := [(26, none, y28), (29, none, y29), (52, none, y27), (53, some 0, fun _ => y21), (53, some 1, fun _ => y23), (53, some 3, fun _ => y19), (54, none, y18), (55, none, y24), (56, none, y20), (57, none, y22), (74, none, y26)]) (K' := [(53, some 2, fun _ => y25)]) zco_144 rfl rfl rfl rfl rfl rfl rfl rfl ?_
              refine g_if_eq (pc' := 77) hc rfl rfl (fun hx => ?_) (fun hx => ?_)
              · replace h := zwp_t h hx
                refine g_iinc (pc' := 97) (ls1 := [some (.ref 0), some (.int a1), some (.int a2), some (.int a3), some (.int x30), some (.int x31), some (.int (x32 + (-1 : Int32)))]) hc rfl rfl zki_m1 (zlt rfl) rfl rfl ?_
                refine g_goto hc rfl ?_
                replace h := zwp_l h
                exact h
              · replace h := zwp_f h hx
                refine g_iinc (pc' := 80) (ls1 := [some (.ref 0), some (.int a1), some (.int a2), some (.int a3), some (.int (x30 + (1 : Int32))), some (.int x31), some (.int x32)]) hc rfl rfl zki_1 (zlt rfl) rfl rfl ?_
                refine g_bipush (pc' := 82) (v := (10 : Int32)) hc rfl zkb_10 rfl ?_
                refine g_iload (pc' := 84)  hc rfl rfl rfl ?_
                refine g_iconst (pc' := 85) (v := (1 : Int32)) hc rfl zki_1 rfl ?_
                refine g_ishr (pc' := 86)  hc rfl rfl ?_
                refine g_imul (pc' := 87)  hc rfl rfl ?_
                refine g_iload (pc' := 89)  hc rfl rfl rfl ?_
                refine g_iconst (pc' := 90) (v := (1 : Int32)) hc rfl zki_1 rfl ?_
                refine g_iand (pc' := 91)  hc rfl rfl ?_
                refine g_iadd (pc' := 92)  hc rfl rfl ?_
                refine g_istore (pc' := 94) (ls1 := [some (.ref 0), some (.int a1), some (.int a2), some (.int a3), some (.int (x30 + (1 : Int32))), some (.int (((10 : Int32) * (x32 >>> ((1 : Int32) &&& 31))) + (x32 &&& (1 : Int32)))), some (.int x32)]) hc rfl (zlt rfl) rfl rfl ?_
                refine g_iinc (pc' := 97) (ls1 := [some (.ref 0), some (.int a1), some (.int a2), some (.int a3), some (.int (x30 + (1 : Int32))), some (.int (((10 : Int32) * (x32 >>> ((1 : Int32) &&& 31))) + (x32 &&& (1 : Int32)))), some (.int (x32 + (-1 : Int32)))]) hc rfl rfl zki_m1 (zlt rfl) rfl rfl ?_
                refine g_goto hc rfl ?_
                replace h := zwp_l h
                exact h
          refine zitr_ev (G := (fun (g : Int32 × (Nat → Int32) × Int32 × (Nat → Int32) × Int32 × (Nat → Int32) × Int32 × (Nat → Int32) × Int64 × (Nat → Int32) × (Nat → Int32) × (Nat → Int32) × (Nat → Int32)) => match g with | (x4, x5, x6, x7, x8, x9, x10, x11, x12, x13, x14, x15, x16) => pm_ev C_X11_game (d + 1) (pm_call M cost zext d) cost (false, false) 108 1 6 Q 34 [some (.ref 0), some (.int a1), some (.int a2), some (.int a3), some (.int x4), none, none] [] 0 0 (zS 19 7 I [(26, none, x15), (29, none, x16), (52, none, x14), (53, some 0, fun _ => x8), (53, some 1, fun _ => x10), (53, some 3, fun _ => x6), (54, none, x5), (55, none, x11), (56, none, x7), (57, none, x9), (74, none, x13)] J [(53, some 2, fun _ => x12)]))) ?_ zFU ((0 : Int32), (I 54), (I 53 3), (I 56), (I 53 0), (I 57), (I 53 1), (I 55), (J 53 2), (I 74), (I 52), (I 26), (I 29)) h
          rintro ⟨x4, x5, x6, x7, x8, x9, x10, x11, x12, x13, x14, x15, x16⟩ h
          refine g_iload (pc' := 36)  hc rfl rfl rfl ?_
          refine g_iconst (pc' := 37) (v := (4 : Int32)) hc rfl zki_4 rfl ?_
          refine g_icmp_ge (pc' := 40) hc rfl rfl (fun hx => ?_) (fun hx => ?_)
          · replace h := zwp_t h hx
            replace h := zwp_r h
            exact h (some (.int x4)) rfl
          · replace h := zwp_f h hx
            refine g_aload_n (pc' := 41)  hc rfl rfl rfl rfl ?_
            refine g_iload_n (pc' := 42)  hc rfl rfl rfl ?_
            refine g_iload_n (pc' := 43)  hc rfl rfl rfl ?_
            refine g_iload (pc' := 45)  hc rfl rfl rfl ?_
            refine z_virt (as := [.int a1, .int a2, .int x4]) (a := 0) (r := []) hc rfl rfl rfl rfl sh_0 rfl zco_143 rfl rfl rfl ?_
            refine ok_X11_play_0_q (zdp hd rfl) (zwp_mono (zwp_bind h) ?_)
            rintro ⟨o37, o38, o39, o40, o41, o42, o43, o44, o45, o46, o47, o48⟩ h
            refine z_po (pc' := 48) (st' := []) (v := none) (L' := [(26, none, o47), (29, none, o48), (52, none, o46), (53, some 0, fun _ => o40), (53, some 1, fun _ => o42), (53, some 3, fun _ => o38), (54, none, o37), (55, none, o43), (56, none, o39), (57, none, o41), (74, none, o45)]) (K' := [(53, some 2, fun _ => o44)]) zco_143 rfl rfl rfl rfl rfl rfl rfl rfl ?_
            refine g_iinc (pc' := 51) (ls1 := [some (.ref 0), some (.int a1), some (.int a2), some (.int a3), some (.int (x4 + (1 : Int32))), none, none]) hc rfl rfl zki_1 (zlt rfl) rfl rfl ?_
            refine g_goto hc rfl ?_
            replace h := zwp_l h
            exact h
        · replace h := zwp_t h hx
          replace h := zws h
          exact z_throw hc rfl rfl (zdq hd rfl) rfl rfl rfl h
      · replace h := zws h
        exact z_pox (L' := [(26, none, (I 26)), (29, none, (I 29)), (52, none, (I 52)), (53, some 0, fun _ => (I 53 0)), (53, some 1, fun _ => (I 53 1)), (53, some 3, fun _ => (I 53 3)), (54, none, (I 54)), (55, none, (I 55)), (56, none, (I 56)), (57, none, (I 57)), (74, none, (I 74))]) (K' := [(53, some 2, fun _ => (J 53 2))]) rfl rfl rfl rfl rfl rfl rfl h
    · replace h := zws h
      exact z_pox (L' := [(26, none, (I 26)), (29, none, (I 29)), (52, none, (I 52)), (53, some 0, fun _ => (I 53 0)), (53, some 1, fun _ => (I 53 1)), (53, some 3, fun _ => (I 53 3)), (54, none, (I 54)), (55, none, (I 55)), (56, none, (I 56)), (57, none, (I 57)), (74, none, (I 74))]) (K' := [(53, some 2, fun _ => (J 53 2))]) rfl rfl rfl rfl rfl rfl rfl h
  · replace h := zws h
    exact z_pox (L' := [(26, none, (I 26)), (29, none, (I 29)), (52, none, (I 52)), (53, some 0, fun _ => (I 53 0)), (53, some 1, fun _ => (I 53 1)), (53, some 3, fun _ => (I 53 3)), (54, none, (I 54)), (55, none, (I 55)), (56, none, (I 56)), (57, none, (I 57)), (74, none, (I 74))]) (K' := [(53, some 2, fun _ => (J 53 2))]) rfl rfl rfl rfl rfl rfl rfl h
set_option maxRecDepth 4000 in
theorem ok_L_game_0_107_q {I : pI} {J : pJ} {a1 : Int32} {a2 : Int32} {a3 : Int32} {Q : pQ} {d : Nat} (hd : 9 ≤ d) (h : zwp (f_L_game a1 a2 a3 1 (J 107) (I 54) (I 53 3) (I 56) (I 53 0) (I 57) (I 53 1) (I 55) (J 53 2) (I 74) (I 52) (I 32) (I 31 3) (I 34) (I 31 0) (I 35) (I 31 1) (I 33) (J 31 2) (I 19 12) (I 19 3) (I 27) (I 25 2) (I 26) (I 19 1) (I 30) (I 28 2) (I 29) (I 24) (I 19 9) (I 21) (I 22) (I 19 0)) (fun w => match w with | (r, o0, o1, o2, o3, o4, o5, o6, o7, o8, o9, o10, o11, o12) => Q (.inl (some (.int r))) (zS 19 7 I [(26, none, o11), (29, none, o12), (52, none, o10), (53, some 0, fun _ => o4), (53, some 1, fun _ => o6), (53, some 3, fun _ => o2), (54, none, o1), (55, none, o7), (56, none, o3), (57, none, o5), (74, none, o9)] J [(53, some 2, fun _ => o8), (107, none, o0)]))) : pm_call M cost zext d 294 [.ref 0, .int a1, .int a2, .int a3, .ref 107] (pm_st 108 (shp 19 7) I J) Q := by
  obtain ⟨d, rfl⟩ := zd1 hd rfl
  have hc := pm_call_m (M := M) (cost := cost) zext_m d
  refine z_in (L := [(26, none, (I 26)), (29, none, (I 29)), (52, none, (I 52)), (53, some 0, fun _ => (I 53 0)), (53, some 1, fun _ => (I 53 1)), (53, some 3, fun _ => (I 53 3)), (54, none, (I 54)), (55, none, (I 55)), (56, none, (I 56)), (57, none, (I 57)), (74, none, (I 74))]) (K := [(53, some 2, fun _ => (J 53 2)), (107, none, (J 107))]) (ls := [some (.ref 0), some (.int a1), some (.int a2), some (.int a3), some (.ref 107), none]) zmt_294 zco_294 rfl rfl (zid_a (zid_a (zid_a (zid_s (zid_s (zid_s (zid_a (zid_a (zid_a (zid_a (zid_a zid_n))))))))))) (zid_s (zid_a zid_n)) ?_
  delta f_L_game at h
  refine g_aload (pc' := 2)  hc rfl rfl rfl rfl ?_
  refine g_iconst (pc' := 3) (v := (0 : Int32)) hc rfl zki_0 rfl ?_
  refine g_aload_n (pc' := 4)  hc rfl rfl rfl rfl ?_
  refine g_iload_n (pc' := 5)  hc rfl rfl rfl ?_
  refine g_iload_n (pc' := 6)  hc rfl rfl rfl ?_
  refine g_iload_n (pc' := 7)  hc rfl rfl rfl ?_
  refine z_virt (as := [.int a1, .int a2, .int a3]) (a := 0) (r := [.int (0 : Int32), .ref 107]) hc rfl rfl rfl rfl sh_0 rfl zco_125 rfl rfl rfl ?_
  refine ok_X11_game_0_q (zdp hd rfl) (zwp_mono (zwp_bind h) ?_)
  rintro ⟨(r13 | E14), o1, o2, o3, o4, o5, o6, o7, o8, o9, o10, o11, o12⟩ h
  · refine z_po (pc' := 10) (st' := [.int r13, .int (0 : Int32), .ref 107]) (v := (some (.int r13))) (L' := [(26, none, o11), (29, none, o12), (52, none, o10), (53, some 0, fun _ => o4), (53, some 1, fun _ => o6), (53, some 3, fun _ => o2), (54, none, o1), (55, none, o7), (56, none, o3), (57, none, o5), (74, none, o9)]) (K' := [(53, some 2, fun _ => o8), (107, none, (J 107))]) zco_125 rfl rfl rfl rfl rfl rfl rfl rfl ?_
    refine g_i2l (pc' := 11)  hc rfl rfl ?_
    have hb := (zwp_bnd h).1
    replace h := (zwp_bnd h).2
    refine z_lastore (pc' := 12) (g := (J 107)) (K' := [(53, some 2, fun _ => o8), (107, none, (vp_updL ((J 107)) (0 : Int32).toNatClampNeg r13.toInt64))]) hc rfl rfl sh_107 hb rfl rfl rfl rfl ?_
    refine g_goto hc rfl ?_
    refine g_iconst (pc' := 24) (v := (0 : Int32)) hc rfl zki_0 rfl ?_
    replace h := zws h
    exact g_ireturn hc rfl rfl rfl (fun _ => ⟨rfl, rfl⟩) h
  · by_cases hE : E14 = x_N
    · replace h := zwp_t h hE
      replace h := zws h
      exact z_poh (L' := [(26, none, o11), (29, none, o12), (52, none, o10), (53, some 0, fun _ => o4), (53, some 1, fun _ => o6), (53, some 3, fun _ => o2), (54, none, o1), (55, none, o7), (56, none, o3), (57, none, o5), (74, none, o9)]) (K' := [(53, some 2, fun _ => o8), (107, none, (J 107))]) (zhd2a (e := 12) (pc := 7) rfl hE) rfl rfl rfl rfl rfl rfl rfl rfl h
    replace h := zwp_f h hE
    have hN := hE
    by_cases hE : E14 = x_I
    · replace h := zwp_t h hE
      replace h := zws h
      exact z_poh (L' := [(26, none, o11), (29, none, o12), (52, none, o10), (53, some 0, fun _ => o4), (53, some 1, fun _ => o6), (53, some 3, fun _ => o2), (54, none, o1), (55, none, o7), (56, none, o3), (57, none, o5), (74, none, o9)]) (K' := [(53, some 2, fun _ => o8), (107, none, (J 107))]) (zhd2b (e := 12) (pc := 7) rfl hN hE) rfl rfl rfl rfl rfl rfl rfl rfl h
    replace h := zwp_f h hE
    exact (zwn h).elim
set_option maxRecDepth 4000 in
theorem ok_X11_drawFate_0_q {I : pI} {J : pJ} {Q : pQ} {d : Nat} (hd : 2 ≤ d) (h : zwp (f_X11_drawFate (I 54) (I 56) (I 55) (J 53 2) (I 19 3) (I 19 1) (I 19 0) (I 0 19)) (fun w => match w with | (o0, o1, o2, o3) => Q (.inl none) (zS 19 7 I [(0, some 19, fun _ => o3), (54, none, o0), (55, none, o2), (56, none, o1)] J []))) : pm_call M cost zext d 146 [.ref 0] (pm_st 108 (shp 19 7) I J) Q := by
  obtain ⟨d, rfl⟩ := zd1 hd rfl
  have hc := pm_call_m (M := M) (cost := cost) zext_m d
  refine z_in (L := [(0, some 19, fun _ => (I 0 19)), (54, none, (I 54)), (55, none, (I 55)), (56, none, (I 56))]) (K := []) (ls := [some (.ref 0), none, none, none]) zmt_146 zco_146 rfl rfl (zid_s (zid_a (zid_a (zid_a zid_n)))) zid_n ?_
  delta f_X11_drawFate at h
  refine g_aload_n (pc' := 1)  hc rfl rfl rfl rfl ?_
  refine g_bipush (pc' := 3) (v := (6 : Int32)) hc rfl zkb_6 rfl ?_
  refine z_virt (as := [.int (6 : Int32)]) (a := 0) (r := []) hc rfl rfl rfl rfl sh_0 rfl zco_145 rfl rfl rfl ?_
  refine ok_X11_draw_0 (zdp hd rfl) (zwp_mono (zwp_bind h) ?_)
  rintro ⟨r2, o1⟩ h
  refine z_po (pc' := 6) (st' := [.int r2]) (v := (some (.int r2))) (L' := [(0, some 19, fun _ => o1), (54, none, (I 54)), (55, none, (I 55)), (56, none, (I 56))]) (K' := []) zco_145 rfl rfl rfl rfl rfl rfl rfl rfl ?_
  refine g_istore_n (pc' := 7) (ls1 := [some (.ref 0), some (.int r2), none, none]) hc rfl (zlt rfl) rfl rfl ?_
  refine g_iload_n (pc' := 8)  hc rfl rfl rfl ?_
  refine g_iconst (pc' := 9) (v := (2 : Int32)) hc rfl zki_2 rfl ?_
  refine g_icmp_gt (pc' := 12) hc rfl rfl (fun hx => ?_) (fun hx => ?_)
  · replace h := zwp_t h hx
    replace h := zws h
    exact g_return hc rfl rfl (fun _ => ⟨rfl, rfl⟩) h
  · replace h := zwp_f h hx
    refine g_aload_n (pc' := 13)  hc rfl rfl rfl rfl ?_
    refine z_getR (pc' := 16)  hc rfl rfl rfl sh_0 rfl rfl ?_
    refine z_getI (pc' := 19) (v := (I 19 3)) hc rfl rfl rfl sh_19 rfl rfl rfl ?_
    refine g_if_ne (pc' := 22) hc rfl rfl (fun hx => ?_) (fun hx => ?_)
    · replace h := zwp_f h hx
      refine g_aload_n (pc' := 24)  hc rfl rfl rfl rfl ?_
      refine g_aload_n (pc' := 25)  hc rfl rfl rfl rfl ?_
      refine z_getR (pc' := 28)  hc rfl rfl rfl sh_0 rfl rfl ?_
      refine z_getI (pc' := 31) (v := (I 19 3)) hc rfl rfl rfl sh_19 rfl rfl rfl ?_
      refine z_virt (as := [.int (I 19 3)]) (a := 0) (r := []) hc rfl rfl rfl rfl sh_0 rfl zco_145 rfl rfl rfl ?_
      refine ok_X11_draw_0 (zdp hd rfl) (zwp_mono (zwp_bind h) ?_)
      rintro ⟨r4, o3⟩ h
      refine z_po (pc' := 34) (st' := [.int r4]) (v := (some (.int r4))) (L' := [(0, some 19, fun _ => o3), (54, none, (I 54)), (55, none, (I 55)), (56, none, (I 56))]) (K' := []) zco_145 rfl rfl rfl rfl rfl rfl rfl rfl ?_
      refine g_istore_n (pc' := 35) (ls1 := [some (.ref 0), some (.int r2), some (.int r4), none]) hc rfl (zlt rfl) rfl rfl ?_
      refine g_iload_n (pc' := 36)  hc rfl rfl rfl ?_
      refine g_if_ne (pc' := 39) hc rfl rfl (fun hx => ?_) (fun hx => ?_)
      · replace h := zwp_f h hx
        refine g_iload_n (pc' := 57)  hc rfl rfl rfl ?_
        refine g_iconst (pc' := 58) (v := (1 : Int32)) hc rfl zki_1 rfl ?_
        refine g_icmp_ne (pc' := 61) hc rfl rfl (fun hx => ?_) (fun hx => ?_)
        · replace h := zwp_f h hx
          refine g_aload_n (pc' := 108)  hc rfl rfl rfl rfl ?_
          refine z_getR (pc' := 111)  hc rfl rfl rfl sh_0 rfl rfl ?_
          refine z_getR (pc' := 114)  hc rfl rfl rfl sh_53 rfl rfl ?_
          refine g_iload_n (pc' := 115)  hc rfl rfl rfl ?_
          refine g_iconst (pc' := 116) (v := (0 : Int32)) hc rfl zki_0 rfl ?_
          have hb := (zwp_bnd h).1
          replace h := (zwp_bnd h).2
          refine z_iastore (pc' := 117) (g := (I 55)) (L' := [(0, some 19, fun _ => o3), (54, none, (I 54)), (55, none, (upd ((I 55)) r4.toNatClampNeg (0 : Int32))), (56, none, (I 56))]) hc rfl rfl sh_55 hb rfl rfl rfl rfl ?_
          replace h := zws h
          exact g_return hc rfl rfl (fun _ => ⟨rfl, rfl⟩) h
        · replace h := zwp_t h hx
          refine g_aload_n (pc' := 62)  hc rfl rfl rfl rfl ?_
          refine g_aload_n (pc' := 63)  hc rfl rfl rfl rfl ?_
          refine z_getR (pc' := 66)  hc rfl rfl rfl sh_0 rfl rfl ?_
          refine z_virt (as := []) (a := 19) (r := [.ref 0]) hc rfl rfl rfl rfl sh_19 rfl zco_21 rfl rfl rfl ?_
          refine ok_X3_cells_19 (zdp hd rfl) (zwp_mono (zwp_bind h) ?_)
          rintro r5 h
          refine z_po (pc' := 69) (st' := [.int r5, .ref 0]) (v := (some (.int r5))) (L' := [(0, some 19, fun _ => o3), (54, none, (I 54)), (55, none, (I 55)), (56, none, (I 56))]) (K' := []) zco_21 rfl rfl rfl rfl rfl rfl rfl rfl ?_
          refine z_virt (as := [.int r5]) (a := 0) (r := []) hc rfl rfl rfl rfl sh_0 rfl zco_145 rfl rfl rfl ?_
          refine ok_X11_draw_0 (zdp hd rfl) (zwp_mono (zwp_bind h) ?_)
          rintro ⟨r7, o6⟩ h
          refine z_po (pc' := 72) (st' := [.int r7]) (v := (some (.int r7))) (L' := [(0, some 19, fun _ => o6), (54, none, (I 54)), (55, none, (I 55)), (56, none, (I 56))]) (K' := []) zco_145 rfl rfl rfl rfl rfl rfl rfl rfl ?_
          refine g_istore_n (pc' := 73) (ls1 := [some (.ref 0), some (.int r2), some (.int r4), some (.int r7)]) hc rfl (zlt rfl) rfl rfl ?_
          refine g_aload_n (pc' := 74)  hc rfl rfl rfl rfl ?_
          refine z_getR (pc' := 77)  hc rfl rfl rfl sh_0 rfl rfl ?_
          refine g_iload_n (pc' := 78)  hc rfl rfl rfl ?_
          refine z_virt (as := [.int r7]) (a := 53) (r := []) hc rfl rfl rfl rfl sh_53 rfl zco_71 rfl rfl rfl ?_
          refine ok_X8_isWall_53 (zdp hd rfl) (zwp_mono (zwp_bind h) ?_)
          rintro r8 h
          refine z_po (pc' := 81) (st' := [.int r8]) (v := (some (.int r8))) (L' := [(0, some 19, fun _ => o6), (54, none, (I 54)), (55, none, (I 55)), (56, none, (I 56))]) (K' := []) zco_71 rfl rfl rfl rfl rfl rfl rfl rfl ?_
          refine g_if_ne (pc' := 84) hc rfl rfl (fun hx => ?_) (fun hx => ?_)
          · replace h := zwp_f h hx
            refine g_goto hc rfl ?_
            replace h := zws h
            exact g_return hc rfl rfl (fun _ => ⟨rfl, rfl⟩) h
          · replace h := zwp_t h hx
            refine g_aload_n (pc' := 85)  hc rfl rfl rfl rfl ?_
            refine z_getR (pc' := 88)  hc rfl rfl rfl sh_0 rfl rfl ?_
            refine z_getR (pc' := 91)  hc rfl rfl rfl sh_53 rfl rfl ?_
            refine g_iload_n (pc' := 92)  hc rfl rfl rfl ?_
            refine g_iload_n (pc' := 93)  hc rfl rfl rfl ?_
            have hb := (zwp_bnd h).1
            replace h := (zwp_bnd h).2
            refine z_iastore (pc' := 94) (g := (I 54)) (L' := [(0, some 19, fun _ => o6), (54, none, (upd ((I 54)) r4.toNatClampNeg r7)), (55, none, (I 55)), (56, none, (I 56))]) hc rfl rfl sh_54 hb rfl rfl rfl rfl ?_
            refine g_aload_n (pc' := 95)  hc rfl rfl rfl rfl ?_
            refine z_getR (pc' := 98)  hc rfl rfl rfl sh_0 rfl rfl ?_
            refine z_getR (pc' := 101)  hc rfl rfl rfl sh_53 rfl rfl ?_
            refine g_iload_n (pc' := 102)  hc rfl rfl rfl ?_
            refine g_iconst (pc' := 103) (v := (0 : Int32)) hc rfl zki_0 rfl ?_
            have hb := (zwp_bnd h).1
            replace h := (zwp_bnd h).2
            refine z_iastore (pc' := 104) (g := (I 56)) (L' := [(0, some 19, fun _ => o6), (54, none, (upd ((I 54)) r4.toNatClampNeg r7)), (55, none, (I 55)), (56, none, (upd ((I 56)) r4.toNatClampNeg (0 : Int32)))]) hc rfl rfl sh_56 hb rfl rfl rfl rfl ?_
            refine g_goto hc rfl ?_
            replace h := zws h
            exact g_return hc rfl rfl (fun _ => ⟨rfl, rfl⟩) h
      · replace h := zwp_t h hx
        refine g_aload_n (pc' := 40)  hc rfl rfl rfl rfl ?_
        refine z_getR (pc' := 43)  hc rfl rfl rfl sh_0 rfl rfl ?_
        refine z_getR (pc' := 46)  hc rfl rfl rfl sh_53 rfl rfl ?_
        refine g_iload_n (pc' := 47)  hc rfl rfl rfl ?_
        refine g_aload_n (pc' := 48)  hc rfl rfl rfl rfl ?_
        refine g_iconst (pc' := 49) (v := (4 : Int32)) hc rfl zki_4 rfl ?_
        refine z_virt (as := [.int (4 : Int32)]) (a := 0) (r := [.int r4, .ref 56]) hc rfl rfl rfl rfl sh_0 rfl zco_145 rfl rfl rfl ?_
        refine ok_X11_draw_0 (zdp hd rfl) (zwp_mono (zwp_bind h) ?_)
        rintro ⟨r10, o9⟩ h
        refine z_po (pc' := 52) (st' := [.int r10, .int r4, .ref 56]) (v := (some (.int r10))) (L' := [(0, some 19, fun _ => o9), (54, none, (I 54)), (55, none, (I 55)), (56, none, (I 56))]) (K' := []) zco_145 rfl rfl rfl rfl rfl rfl rfl rfl ?_
        have hb := (zwp_bnd h).1
        replace h := (zwp_bnd h).2
        refine z_iastore (pc' := 53) (g := (I 56)) (L' := [(0, some 19, fun _ => o9), (54, none, (I 54)), (55, none, (I 55)), (56, none, (upd ((I 56)) r4.toNatClampNeg r10))]) hc rfl rfl sh_56 hb rfl rfl rfl rfl ?_
        refine g_goto hc rfl ?_
        replace h := zws h
        exact g_return hc rfl rfl (fun _ => ⟨rfl, rfl⟩) h
    · replace h := zwp_t h hx
      replace h := zws h
      exact g_return hc rfl rfl (fun _ => ⟨rfl, rfl⟩) h
set_option maxRecDepth 4000 in
theorem ok_X11_years_0_q {I : pI} {J : pJ} {a1 : Int32} {a2 : Int32} {a3 : Int32} {Q : pQ} {d : Nat} (hd : 8 ≤ d) (h : zwp (f_X11_years a1 a2 a3 (I 54) (I 53 3) (I 56) (I 53 0) (I 57) (I 53 1) (I 55) (J 53 2) (I 52) (I 32) (I 31 3) (I 34) (I 31 0) (I 35) (I 31 1) (I 33) (J 31 2) (I 19 12) (I 19 3) (I 27) (I 25 2) (I 26) (I 19 1) (I 30) (I 28 2) (I 29) (I 24) (I 19 9) (I 21) (I 22) (I 19 0) (I 0 19)) (fun w => match w with | (.inl r, o0, o1, o2, o3, o4, o5, o6, o7, o8, o9, o10, o11) => Q (.inl (some (.int r))) (zS 19 7 I [(0, some 19, fun _ => o11), (26, none, o9), (29, none, o10), (52, none, o8), (53, some 0, fun _ => o3), (53, some 1, fun _ => o5), (53, some 3, fun _ => o1), (54, none, o0), (55, none, o6), (56, none, o2), (57, none, o4)] J [(53, some 2, fun _ => o7)]) | (.inr E, o0, o1, o2, o3, o4, o5, o6, o7, o8, o9, o10, o11) => Q (.inr E) (zS 19 7 I [(0, some 19, fun _ => o11), (26, none, o9), (29, none, o10), (52, none, o8), (53, some 0, fun _ => o3), (53, some 1, fun _ => o5), (53, some 3, fun _ => o1), (54, none, o0), (55, none, o6), (56, none, o2), (57, none, o4)] J [(53, some 2, fun _ => o7)]))) : pm_call M cost zext d 126 [.ref 0, .int a1, .int a2, .int a3] (pm_st 108 (shp 19 7) I J) Q := by
  obtain ⟨d, rfl⟩ := zd1 hd rfl
  have hc := pm_call_m (M := M) (cost := cost) zext_m d
  refine z_in (L := [(0, some 19, fun _ => (I 0 19)), (26, none, (I 26)), (29, none, (I 29)), (52, none, (I 52)), (53, some 0, fun _ => (I 53 0)), (53, some 1, fun _ => (I 53 1)), (53, some 3, fun _ => (I 53 3)), (54, none, (I 54)), (55, none, (I 55)), (56, none, (I 56)), (57, none, (I 57))]) (K := [(53, some 2, fun _ => (J 53 2))]) (ls := [some (.ref 0), some (.int a1), some (.int a2), some (.int a3), none, none]) zmt_126 zco_126 rfl rfl (zid_s (zid_a (zid_a (zid_a (zid_s (zid_s (zid_s (zid_a (zid_a (zid_a (zid_a zid_n))))))))))) (zid_s zid_n) ?_
  delta f_X11_years at h
  refine g_iload_n (pc' := 1)  hc rfl rfl rfl ?_
  refine g_iconst (pc' := 2) (v := (2 : Int32)) hc rfl zki_2 rfl ?_
  refine z_stat (as := [.int a3, .int (2 : Int32)]) (r := []) hc rfl rfl rfl rfl zco_135 rfl rfl rfl ?_
  refine ok_X11_checkWhat (zdp hd rfl) (zwp_mono (zwp_bind h) ?_)
  rintro (⟨⟩ | E1) h
  · refine z_po (pc' := 5) (st' := []) (v := none) (L' := [(0, some 19, fun _ => (I 0 19)), (26, none, (I 26)), (29, none, (I 29)), (52, none, (I 52)), (53, some 0, fun _ => (I 53 0)), (53, some 1, fun _ => (I 53 1)), (53, some 3, fun _ => (I 53 3)), (54, none, (I 54)), (55, none, (I 55)), (56, none, (I 56)), (57, none, (I 57))]) (K' := [(53, some 2, fun _ => (J 53 2))]) zco_135 rfl rfl rfl rfl rfl rfl rfl rfl ?_
    refine g_iload_n (pc' := 6)  hc rfl rfl rfl ?_
    refine g_iconst (pc' := 7) (v := (0 : Int32)) hc rfl zki_0 rfl ?_
    refine g_bipush (pc' := 9) (v := (100 : Int32)) hc rfl zkb_100 rfl ?_
    refine z_stat (as := [.int a2, .int (0 : Int32), .int (100 : Int32)]) (r := []) hc rfl rfl rfl rfl zco_136 rfl rfl rfl ?_
    refine ok_X11_checkHours (zdp hd rfl) (zwp_mono (zwp_bind h) ?_)
    rintro (⟨⟩ | E2) h
    · refine z_po (pc' := 12) (st' := []) (v := none) (L' := [(0, some 19, fun _ => (I 0 19)), (26, none, (I 26)), (29, none, (I 29)), (52, none, (I 52)), (53, some 0, fun _ => (I 53 0)), (53, some 1, fun _ => (I 53 1)), (53, some 3, fun _ => (I 53 3)), (54, none, (I 54)), (55, none, (I 55)), (56, none, (I 56)), (57, none, (I 57))]) (K' := [(53, some 2, fun _ => (J 53 2))]) zco_136 rfl rfl rfl rfl rfl rfl rfl rfl ?_
      refine g_aload_n (pc' := 13)  hc rfl rfl rfl rfl ?_
      refine g_iload_n (pc' := 14)  hc rfl rfl rfl ?_
      refine z_putI (pc' := 17) (L' := [(0, some 19, fun _ => a1), (26, none, (I 26)), (29, none, (I 29)), (52, none, (I 52)), (53, some 0, fun _ => (I 53 0)), (53, some 1, fun _ => (I 53 1)), (53, some 3, fun _ => (I 53 3)), (54, none, (I 54)), (55, none, (I 55)), (56, none, (I 56)), (57, none, (I 57))]) hc rfl rfl rfl sh_0 rfl zft_11_19 rfl (fun h => Bool.noConfusion h) rfl rfl rfl ?_
      refine g_aload_n (pc' := 18)  hc rfl rfl rfl rfl ?_
      refine g_iconst (pc' := 19) (v := (0 : Int32)) hc rfl zki_0 rfl ?_
      refine z_virt (as := [.int (0 : Int32)]) (a := 0) (r := []) hc rfl rfl rfl rfl sh_0 rfl zco_139 rfl rfl rfl ?_
      refine ok_X11_foresee_0_q (zdp hd rfl) (zwp_mono (zwp_bind h) ?_)
      rintro ⟨o3, o4, o5, o6, o7, o8, o9, o10, o11, o12, o13⟩ h
      refine z_po (pc' := 22) (st' := []) (v := none) (L' := [(0, some 19, fun _ => a1), (26, none, o12), (29, none, o13), (52, none, o11), (53, some 0, fun _ => o6), (53, some 1, fun _ => o8), (53, some 3, fun _ => o4), (54, none, o3), (55, none, o9), (56, none, o5), (57, none, o7)]) (K' := [(53, some 2, fun _ => o10)]) zco_139 rfl rfl rfl rfl rfl rfl rfl rfl ?_
      refine g_iconst (pc' := 23) (v := (0 : Int32)) hc rfl zki_0 rfl ?_
      refine g_istore (pc' := 25) (ls1 := [some (.ref 0), some (.int a1), some (.int a2), some (.int a3), some (.int (0 : Int32)), none]) hc rfl (zlt rfl) rfl rfl ?_
      refine g_iconst (pc' := 26) (v := (0 : Int32)) hc rfl zki_0 rfl ?_
      refine g_istore (pc' := 28) (ls1 := [some (.ref 0), some (.int a1), some (.int a2), some (.int a3), some (.int (0 : Int32)), some (.int (0 : Int32))]) hc rfl (zlt rfl) rfl rfl ?_
      refine zjn (G := (fun (g : Int32 × (Nat → Int32) × (Nat → Int32) × Int32 × (Nat → Int32) × (Nat → Int32) × (Nat → Int32) × (Nat → Int32) × Int32) => match g with | (y24, y26, y27, y28, y29, y30, y31, y32, y33) => ∀ z25 : Option Value, znl z25 = true → pm_ev C_X11_years (d + 1) (pm_call M cost zext d) cost (false, false) 108 1 6 Q 71 [some (.ref 0), some (.int a1), some (.int a2), some (.int a3), some (.int y24), z25] [] 0 0 (zS 19 7 I [(0, some 19, fun _ => y33), (26, none, y31), (29, none, y32), (52, none, y30), (53, some 0, fun _ => y28), (53, some 1, fun _ => o8), (53, some 3, fun _ => o4), (54, none, y26), (55, none, y29), (56, none, y27), (57, none, o7)] J [(53, some 2, fun _ => o10)]))) (zwp_bind h) ?_ (fun h => ?_)
      · rintro ⟨y24, y26, y27, y28, y29, y30, y31, y32, y33⟩ h z25 hz25
        refine g_iload_n (pc' := 72)  hc rfl rfl rfl ?_
        refine g_if_ne (pc' := 75) hc rfl rfl (fun hx => ?_) (fun hx => ?_)
        · replace h := zwp_f h hx
          refine g_iload_n (pc' := 79)  hc rfl rfl rfl ?_
          refine g_iconst (pc' := 80) (v := (1 : Int32)) hc rfl zki_1 rfl ?_
          refine g_icmp_ne (pc' := 83) hc rfl rfl (fun hx => ?_) (fun hx => ?_)
          · replace h := zwp_f h hx
            refine g_aload_n (pc' := 94)  hc rfl rfl rfl rfl ?_
            refine z_getR (pc' := 97)  hc rfl rfl rfl sh_0 rfl rfl ?_
            refine z_virt (as := []) (a := 53) (r := []) hc rfl rfl rfl rfl sh_53 rfl zco_77 rfl rfl rfl ?_
            refine ok_X8_places_53 (zdp hd rfl) (zwp_mono (zwp_bind h) ?_)
            rintro r34 h
            refine z_po (pc' := 100) (st' := [.long r34]) (v := (some (.long r34))) (L' := [(0, some 19, fun _ => y33), (26, none, y31), (29, none, y32), (52, none, y30), (53, some 0, fun _ => y28), (53, some 1, fun _ => o8), (53, some 3, fun _ => o4), (54, none, y26), (55, none, y29), (56, none, y27), (57, none, o7)]) (K' := [(53, some 2, fun _ => o10)]) zco_77 rfl rfl rfl rfl rfl rfl rfl rfl ?_
            refine z_stat (as := [.long r34]) (r := []) hc rfl rfl rfl rfl zco_266 rfl rfl rfl ?_
            refine ok_J13_bitCount_95d88 (zdp hd rfl) (zwp_mono (zwp_bind h) ?_)
            rintro r35 h
            refine z_po (pc' := 103) (st' := [.int r35]) (v := (some (.int r35))) (L' := [(0, some 19, fun _ => y33), (26, none, y31), (29, none, y32), (52, none, y30), (53, some 0, fun _ => y28), (53, some 1, fun _ => o8), (53, some 3, fun _ => o4), (54, none, y26), (55, none, y29), (56, none, y27), (57, none, o7)]) (K' := [(53, some 2, fun _ => o10)]) zco_266 rfl rfl rfl rfl rfl rfl rfl rfl ?_
            replace h := zws h
            exact g_ireturn hc rfl rfl rfl (fun _ => ⟨rfl, rfl⟩) h
          · replace h := zwp_t h hx
            refine g_aload_n (pc' := 84)  hc rfl rfl rfl rfl ?_
            refine z_getR (pc' := 87)  hc rfl rfl rfl sh_0 rfl rfl ?_
            refine z_virt (as := []) (a := 53) (r := []) hc rfl rfl rfl rfl sh_53 rfl zco_78 rfl rfl rfl ?_
            refine ok_X8_soreOfAll_53 (zdp hd rfl) (zwp_mono (zwp_bind h) ?_)
            rintro r36 h
            refine z_po (pc' := 90) (st' := [.int r36]) (v := (some (.int r36))) (L' := [(0, some 19, fun _ => y33), (26, none, y31), (29, none, y32), (52, none, y30), (53, some 0, fun _ => y28), (53, some 1, fun _ => o8), (53, some 3, fun _ => o4), (54, none, y26), (55, none, y29), (56, none, y27), (57, none, o7)]) (K' := [(53, some 2, fun _ => o10)]) zco_78 rfl rfl rfl rfl rfl rfl rfl rfl ?_
            refine g_goto hc rfl ?_
            replace h := zws h
            exact g_ireturn hc rfl rfl rfl (fun _ => ⟨rfl, rfl⟩) h
        · replace h := zwp_t h hx
          refine g_iload (pc' := 77)  hc rfl rfl rfl ?_
          replace h := zws h
          exact g_ireturn hc rfl rfl rfl (fun _ => ⟨rfl, rfl⟩) h
      refine zitr_ev (G := (fun (g : Int32 × Int32 × (Nat → Int32) × (Nat → Int32) × Int32 × (Nat → Int32) × (Nat → Int32) × (Nat → Int32) × (Nat → Int32) × Int32) => match g with | (x14, x15, x16, x17, x18, x19, x20, x21, x22, x23) => pm_ev C_X11_years (d + 1) (pm_call M cost zext d) cost (false, false) 108 1 6 Q 28 [some (.ref 0), some (.int a1), some (.int a2), some (.int a3), some (.int x14), some (.int x15)] [] 0 0 (zS 19 7 I [(0, some 19, fun _ => x23), (26, none, x21), (29, none, x22), (52, none, x20), (53, some 0, fun _ => x18), (53, some 1, fun _ => o8), (53, some 3, fun _ => o4), (54, none, x16), (55, none, x19), (56, none, x17), (57, none, o7)] J [(53, some 2, fun _ => o10)]))) ?_ zFU ((0 : Int32), (0 : Int32), o3, o5, o6, o9, o11, o12, o13, a1) h
      rintro ⟨x14, x15, x16, x17, x18, x19, x20, x21, x22, x23⟩ h
      refine g_iload (pc' := 30)  hc rfl rfl rfl ?_
      refine g_iload_n (pc' := 31)  hc rfl rfl rfl ?_
      refine g_icmp_ge (pc' := 34) hc rfl rfl (fun hx => ?_) (fun hx => ?_)
      · replace h := zwp_t h hx
        replace h := zwp_r h
        exact h (some (.int x15)) rfl
      · replace h := zwp_f h hx
        refine g_aload_n (pc' := 35)  hc rfl rfl rfl rfl ?_
        refine z_virt (as := []) (a := 0) (r := []) hc rfl rfl rfl rfl sh_0 rfl zco_146 rfl rfl rfl ?_
        refine ok_X11_drawFate_0_q (zdp hd rfl) (zwp_mono (zwp_bind h) ?_)
        rintro ⟨o37, o38, o39, o40⟩ h
        refine z_po (pc' := 38) (st' := []) (v := none) (L' := [(0, some 19, fun _ => o40), (26, none, x21), (29, none, x22), (52, none, x20), (53, some 0, fun _ => x18), (53, some 1, fun _ => o8), (53, some 3, fun _ => o4), (54, none, o37), (55, none, o39), (56, none, o38), (57, none, o7)]) (K' := [(53, some 2, fun _ => o10)]) zco_146 rfl rfl rfl rfl rfl rfl rfl rfl ?_
        refine g_aload_n (pc' := 39)  hc rfl rfl rfl rfl ?_
        refine z_virt (as := []) (a := 0) (r := []) hc rfl rfl rfl rfl sh_0 rfl zco_140 rfl rfl rfl ?_
        refine ok_X11_passFuture_0_q (zdp hd rfl) (zwp_mono (zwp_bind h) ?_)
        rintro ⟨o41, o42, o43, o44, o45, o46, o47⟩ h
        refine z_po (pc' := 42) (st' := []) (v := none) (L' := [(0, some 19, fun _ => o40), (26, none, o46), (29, none, o47), (52, none, o45), (53, some 0, fun _ => o43), (53, some 1, fun _ => o8), (53, some 3, fun _ => o4), (54, none, o41), (55, none, o44), (56, none, o42), (57, none, o7)]) (K' := [(53, some 2, fun _ => o10)]) zco_140 rfl rfl rfl rfl rfl rfl rfl rfl ?_
        refine g_aload_n (pc' := 43)  hc rfl rfl rfl rfl ?_
        refine z_getR (pc' := 46)  hc rfl rfl rfl sh_0 rfl rfl ?_
        refine z_virt (as := []) (a := 53) (r := []) hc rfl rfl rfl rfl sh_53 rfl zco_77 rfl rfl rfl ?_
        refine ok_X8_places_53 (zdp hd rfl) (zwp_mono (zwp_bind h) ?_)
        rintro r48 h
        refine z_po (pc' := 49) (st' := [.long r48]) (v := (some (.long r48))) (L' := [(0, some 19, fun _ => o40), (26, none, o46), (29, none, o47), (52, none, o45), (53, some 0, fun _ => o43), (53, some 1, fun _ => o8), (53, some 3, fun _ => o4), (54, none, o41), (55, none, o44), (56, none, o42), (57, none, o7)]) (K' := [(53, some 2, fun _ => o10)]) zco_77 rfl rfl rfl rfl rfl rfl rfl rfl ?_
        refine z_stat (as := [.long r48]) (r := []) hc rfl rfl rfl rfl zco_266 rfl rfl rfl ?_
        refine ok_J13_bitCount_95d88 (zdp hd rfl) (zwp_mono (zwp_bind h) ?_)
        rintro r49 h
        refine z_po (pc' := 52) (st' := [.int r49]) (v := (some (.int r49))) (L' := [(0, some 19, fun _ => o40), (26, none, o46), (29, none, o47), (52, none, o45), (53, some 0, fun _ => o43), (53, some 1, fun _ => o8), (53, some 3, fun _ => o4), (54, none, o41), (55, none, o44), (56, none, o42), (57, none, o7)]) (K' := [(53, some 2, fun _ => o10)]) zco_266 rfl rfl rfl rfl rfl rfl rfl rfl ?_
        refine g_aload_n (pc' := 53)  hc rfl rfl rfl rfl ?_
        refine z_getR (pc' := 56)  hc rfl rfl rfl sh_0 rfl rfl ?_
        refine z_getI (pc' := 59) (v := (I 19 3)) hc rfl rfl rfl sh_19 rfl rfl rfl ?_
        refine g_icmp_ge (pc' := 62) hc rfl rfl (fun hx => ?_) (fun hx => ?_)
        · replace h := zwp_t h hx
          refine g_iinc (pc' := 68) (ls1 := [some (.ref 0), some (.int a1), some (.int a2), some (.int a3), some (.int x14), some (.int (x15 + (1 : Int32)))]) hc rfl rfl zki_1 (zlt rfl) rfl rfl ?_
          refine g_goto hc rfl ?_
          replace h := zwp_l h
          exact h
        · replace h := zwp_f h hx
          refine g_iinc (pc' := 65) (ls1 := [some (.ref 0), some (.int a1), some (.int a2), some (.int a3), some (.int (x14 + (1 : Int32))), some (.int x15)]) hc rfl rfl zki_1 (zlt rfl) rfl rfl ?_
          refine g_iinc (pc' := 68) (ls1 := [some (.ref 0), some (.int a1), some (.int a2), some (.int a3), some (.int (x14 + (1 : Int32))), some (.int (x15 + (1 : Int32)))]) hc rfl rfl zki_1 (zlt rfl) rfl rfl ?_
          refine g_goto hc rfl ?_
          replace h := zwp_l h
          exact h
    · replace h := zws h
      exact z_pox (L' := [(0, some 19, fun _ => (I 0 19)), (26, none, (I 26)), (29, none, (I 29)), (52, none, (I 52)), (53, some 0, fun _ => (I 53 0)), (53, some 1, fun _ => (I 53 1)), (53, some 3, fun _ => (I 53 3)), (54, none, (I 54)), (55, none, (I 55)), (56, none, (I 56)), (57, none, (I 57))]) (K' := [(53, some 2, fun _ => (J 53 2))]) rfl rfl rfl rfl rfl rfl rfl h
  · replace h := zws h
    exact z_pox (L' := [(0, some 19, fun _ => (I 0 19)), (26, none, (I 26)), (29, none, (I 29)), (52, none, (I 52)), (53, some 0, fun _ => (I 53 0)), (53, some 1, fun _ => (I 53 1)), (53, some 3, fun _ => (I 53 3)), (54, none, (I 54)), (55, none, (I 55)), (56, none, (I 56)), (57, none, (I 57))]) (K' := [(53, some 2, fun _ => (J 53 2))]) rfl rfl rfl rfl rfl rfl rfl h
set_option maxRecDepth 4000 in
theorem ok_L_years_0_107_q {I : pI} {J : pJ} {a1 : Int32} {a2 : Int32} {a3 : Int32} {Q : pQ} {d : Nat} (hd : 9 ≤ d) (h : zwp (f_L_years a1 a2 a3 1 (J 107) (I 54) (I 53 3) (I 56) (I 53 0) (I 57) (I 53 1) (I 55) (J 53 2) (I 52) (I 32) (I 31 3) (I 34) (I 31 0) (I 35) (I 31 1) (I 33) (J 31 2) (I 19 12) (I 19 3) (I 27) (I 25 2) (I 26) (I 19 1) (I 30) (I 28 2) (I 29) (I 24) (I 19 9) (I 21) (I 22) (I 19 0) (I 0 19)) (fun w => match w with | (r, o0, o1, o2, o3, o4, o5, o6, o7, o8, o9, o10, o11, o12) => Q (.inl (some (.int r))) (zS 19 7 I [(0, some 19, fun _ => o12), (26, none, o10), (29, none, o11), (52, none, o9), (53, some 0, fun _ => o4), (53, some 1, fun _ => o6), (53, some 3, fun _ => o2), (54, none, o1), (55, none, o7), (56, none, o3), (57, none, o5)] J [(53, some 2, fun _ => o8), (107, none, o0)]))) : pm_call M cost zext d 295 [.ref 0, .int a1, .int a2, .int a3, .ref 107] (pm_st 108 (shp 19 7) I J) Q := by
  obtain ⟨d, rfl⟩ := zd1 hd rfl
  have hc := pm_call_m (M := M) (cost := cost) zext_m d
  refine z_in (L := [(0, some 19, fun _ => (I 0 19)), (26, none, (I 26)), (29, none, (I 29)), (52, none, (I 52)), (53, some 0, fun _ => (I 53 0)), (53, some 1, fun _ => (I 53 1)), (53, some 3, fun _ => (I 53 3)), (54, none, (I 54)), (55, none, (I 55)), (56, none, (I 56)), (57, none, (I 57))]) (K := [(53, some 2, fun _ => (J 53 2)), (107, none, (J 107))]) (ls := [some (.ref 0), some (.int a1), some (.int a2), some (.int a3), some (.ref 107), none]) zmt_295 zco_295 rfl rfl (zid_s (zid_a (zid_a (zid_a (zid_s (zid_s (zid_s (zid_a (zid_a (zid_a (zid_a zid_n))))))))))) (zid_s (zid_a zid_n)) ?_
  delta f_L_years at h
  refine g_aload (pc' := 2)  hc rfl rfl rfl rfl ?_
  refine g_iconst (pc' := 3) (v := (0 : Int32)) hc rfl zki_0 rfl ?_
  refine g_aload_n (pc' := 4)  hc rfl rfl rfl rfl ?_
  refine g_iload_n (pc' := 5)  hc rfl rfl rfl ?_
  refine g_iload_n (pc' := 6)  hc rfl rfl rfl ?_
  refine g_iload_n (pc' := 7)  hc rfl rfl rfl ?_
  refine z_virt (as := [.int a1, .int a2, .int a3]) (a := 0) (r := [.int (0 : Int32), .ref 107]) hc rfl rfl rfl rfl sh_0 rfl zco_126 rfl rfl rfl ?_
  refine ok_X11_years_0_q (zdp hd rfl) (zwp_mono (zwp_bind h) ?_)
  rintro ⟨(r13 | E14), o1, o2, o3, o4, o5, o6, o7, o8, o9, o10, o11, o12⟩ h
  · refine z_po (pc' := 10) (st' := [.int r13, .int (0 : Int32), .ref 107]) (v := (some (.int r13))) (L' := [(0, some 19, fun _ => o12), (26, none, o10), (29, none, o11), (52, none, o9), (53, some 0, fun _ => o4), (53, some 1, fun _ => o6), (53, some 3, fun _ => o2), (54, none, o1), (55, none, o7), (56, none, o3), (57, none, o5)]) (K' := [(53, some 2, fun _ => o8), (107, none, (J 107))]) zco_126 rfl rfl rfl rfl rfl rfl rfl rfl ?_
    refine g_i2l (pc' := 11)  hc rfl rfl ?_
    have hb := (zwp_bnd h).1
    replace h := (zwp_bnd h).2
    refine z_lastore (pc' := 12) (g := (J 107)) (K' := [(53, some 2, fun _ => o8), (107, none, (vp_updL ((J 107)) (0 : Int32).toNatClampNeg r13.toInt64))]) hc rfl rfl sh_107 hb rfl rfl rfl rfl ?_
    refine g_goto hc rfl ?_
    refine g_iconst (pc' := 24) (v := (0 : Int32)) hc rfl zki_0 rfl ?_
    replace h := zws h
    exact g_ireturn hc rfl rfl rfl (fun _ => ⟨rfl, rfl⟩) h
  · by_cases hE : E14 = x_N
    · replace h := zwp_t h hE
      replace h := zws h
      exact z_poh (L' := [(0, some 19, fun _ => o12), (26, none, o10), (29, none, o11), (52, none, o9), (53, some 0, fun _ => o4), (53, some 1, fun _ => o6), (53, some 3, fun _ => o2), (54, none, o1), (55, none, o7), (56, none, o3), (57, none, o5)]) (K' := [(53, some 2, fun _ => o8), (107, none, (J 107))]) (zhd2a (e := 12) (pc := 7) rfl hE) rfl rfl rfl rfl rfl rfl rfl rfl h
    replace h := zwp_f h hE
    have hN := hE
    by_cases hE : E14 = x_I
    · replace h := zwp_t h hE
      replace h := zws h
      exact z_poh (L' := [(0, some 19, fun _ => o12), (26, none, o10), (29, none, o11), (52, none, o9), (53, some 0, fun _ => o4), (53, some 1, fun _ => o6), (53, some 3, fun _ => o2), (54, none, o1), (55, none, o7), (56, none, o3), (57, none, o5)]) (K' := [(53, some 2, fun _ => o8), (107, none, (J 107))]) (zhd2b (e := 12) (pc := 7) rfl hN hE) rfl rfl rfl rfl rfl rfl rfl rfl h
    replace h := zwp_f h hE
    exact (zwn h).elim
set_option maxRecDepth 4000 in
theorem ok_X11_busiest_0_q {I : pI} {J : pJ} {a1 : Int32} {Q : pQ} {d : Nat} (hd : 7 ≤ d) (h : zwp (f_X11_busiest a1 (I 54) (I 53 3) (I 56) (I 53 0) (I 57) (I 53 1) (I 55) (J 53 2) (I 52) (I 32) (I 31 3) (I 34) (I 31 0) (I 35) (I 31 1) (I 33) (J 31 2) (I 19 12) (I 19 3) (I 27) (I 25 2) (I 26) (I 19 1) (I 30) (I 28 2) (I 29) (I 24) (I 19 9) (I 21) (I 22) (I 19 0) (I 72)) (fun w => match w with | (r, o0, o1, o2, o3, o4, o5, o6, o7, o8, o9, o10, o11) => Q (.inl (some (.int r))) (zS 19 7 I [(26, none, o9), (29, none, o10), (52, none, o8), (53, some 0, fun _ => o3), (53, some 1, fun _ => o5), (53, some 3, fun _ => o1), (54, none, o0), (55, none, o6), (56, none, o2), (57, none, o4), (72, none, o11)] J [(53, some 2, fun _ => o7)]))) : pm_call M cost zext d 147 [.ref 0, .int a1] (pm_st 108 (shp 19 7) I J) Q := by
  obtain ⟨d, rfl⟩ := zd1 hd rfl
  have hc := pm_call_m (M := M) (cost := cost) zext_m d
  refine z_in (L := [(26, none, (I 26)), (29, none, (I 29)), (52, none, (I 52)), (53, some 0, fun _ => (I 53 0)), (53, some 1, fun _ => (I 53 1)), (53, some 3, fun _ => (I 53 3)), (54, none, (I 54)), (55, none, (I 55)), (56, none, (I 56)), (57, none, (I 57)), (72, none, (I 72))]) (K := [(53, some 2, fun _ => (J 53 2))]) (ls := [some (.ref 0), some (.int a1), none, none, none]) zmt_147 zco_147 rfl rfl (zid_a (zid_a (zid_a (zid_s (zid_s (zid_s (zid_a (zid_a (zid_a (zid_a (zid_a zid_n))))))))))) (zid_s zid_n) ?_
  delta f_X11_busiest at h
  refine g_aload_n (pc' := 1)  hc rfl rfl rfl rfl ?_
  refine z_getR (pc' := 4)  hc rfl rfl rfl sh_0 rfl rfl ?_
  refine g_iconst (pc' := 5) (v := (0 : Int32)) hc rfl zki_0 rfl ?_
  refine z_stat (as := [.ref 72, .int (0 : Int32)]) (r := []) hc rfl rfl rfl rfl zco_268 rfl rfl rfl ?_
  refine ok_J7_fill_53178_72 (zdp hd rfl) (zwp_mono (zwp_bind h) ?_)
  rintro o1 h
  refine z_po (pc' := 8) (st' := []) (v := none) (L' := [(26, none, (I 26)), (29, none, (I 29)), (52, none, (I 52)), (53, some 0, fun _ => (I 53 0)), (53, some 1, fun _ => (I 53 1)), (53, some 3, fun _ => (I 53 3)), (54, none, (I 54)), (55, none, (I 55)), (56, none, (I 56)), (57, none, (I 57)), (72, none, o1)]) (K' := [(53, some 2, fun _ => (J 53 2))]) zco_268 rfl rfl rfl rfl rfl rfl rfl rfl ?_
  refine g_aload_n (pc' := 9)  hc rfl rfl rfl rfl ?_
  refine g_iconst (pc' := 10) (v := (0 : Int32)) hc rfl zki_0 rfl ?_
  refine z_virt (as := [.int (0 : Int32)]) (a := 0) (r := []) hc rfl rfl rfl rfl sh_0 rfl zco_139 rfl rfl rfl ?_
  refine ok_X11_foresee_0_q (zdp hd rfl) (zwp_mono (zwp_bind h) ?_)
  rintro ⟨o2, o3, o4, o5, o6, o7, o8, o9, o10, o11, o12⟩ h
  refine z_po (pc' := 13) (st' := []) (v := none) (L' := [(26, none, o11), (29, none, o12), (52, none, o10), (53, some 0, fun _ => o5), (53, some 1, fun _ => o7), (53, some 3, fun _ => o3), (54, none, o2), (55, none, o8), (56, none, o4), (57, none, o6), (72, none, o1)]) (K' := [(53, some 2, fun _ => o9)]) zco_139 rfl rfl rfl rfl rfl rfl rfl rfl ?_
  refine g_iconst (pc' := 14) (v := (0 : Int32)) hc rfl zki_0 rfl ?_
  refine g_istore_n (pc' := 15) (ls1 := [some (.ref 0), some (.int a1), some (.int (0 : Int32)), none, none]) hc rfl (zlt rfl) rfl rfl ?_
  refine zjn (G := (fun (g : (Nat → Int32) × (Nat → Int32) × Int32 × (Nat → Int32) × (Nat → Int32) × (Nat → Int32) × (Nat → Int32) × (Nat → Int32)) => match g with | (y25, y26, y27, y28, y29, y30, y31, y32) => ∀ z23 : Option Value, znl z23 = true → ∀ z24 : Option Value, znl z24 = true → pm_ev C_X11_busiest (d + 1) (pm_call M cost zext d) cost (false, false) 108 0 0 Q 67 [some (.ref 0), some (.int a1), z23, z24, none] [] 0 0 (zS 19 7 I [(26, none, y30), (29, none, y31), (52, none, y29), (53, some 0, fun _ => y27), (53, some 1, fun _ => o7), (53, some 3, fun _ => o3), (54, none, y25), (55, none, y28), (56, none, y26), (57, none, o6), (72, none, y32)] J [(53, some 2, fun _ => o9)]))) (zwp_bind h) ?_ (fun h => ?_)
  · rintro ⟨y25, y26, y27, y28, y29, y30, y31, y32⟩ h z23 hz23 z24 hz24
    refine g_iconst (pc' := 68) (v := (0 : Int32)) hc rfl zki_0 rfl ?_
    refine g_istore_n (pc' := 69) (ls1 := [some (.ref 0), some (.int a1), some (.int (0 : Int32)), z24, none]) hc rfl (zlt rfl) rfl rfl ?_
    refine g_iconst (pc' := 70) (v := (-1 : Int32)) hc rfl zki_m1 rfl ?_
    refine g_istore_n (pc' := 71) (ls1 := [some (.ref 0), some (.int a1), some (.int (0 : Int32)), some (.int (-1 : Int32)), none]) hc rfl (zlt rfl) rfl rfl ?_
    refine g_iconst (pc' := 72) (v := (0 : Int32)) hc rfl zki_0 rfl ?_
    refine g_istore (pc' := 74) (ls1 := [some (.ref 0), some (.int a1), some (.int (0 : Int32)), some (.int (-1 : Int32)), some (.int (0 : Int32))]) hc rfl (zlt rfl) rfl rfl ?_
    refine zjn (G := (fun (y37 : Int32) => ∀ z36 : Option Value, znl z36 = true → ∀ z38 : Option Value, znl z38 = true → pm_ev C_X11_busiest (d + 1) (pm_call M cost zext d) cost (false, false) 108 0 0 Q 109 [some (.ref 0), some (.int a1), z36, some (.int y37), z38] [] 0 0 (zS 19 7 I [(26, none, y30), (29, none, y31), (52, none, y29), (53, some 0, fun _ => y27), (53, some 1, fun _ => o7), (53, some 3, fun _ => o3), (54, none, y25), (55, none, y28), (56, none, y26), (57, none, o6), (72, none, y32)] J [(53, some 2, fun _ => o9)]))) (zwp_bind h) ?_ (fun h => ?_)
    · rintro y37 h z36 hz36 z38 hz38
      refine g_iload_n (pc' := 110)  hc rfl rfl rfl ?_
      replace h := zws h
      exact g_ireturn hc rfl rfl rfl (fun _ => ⟨rfl, rfl⟩) h
    refine zitr_ev (G := (fun (g : Int32 × Int32 × Int32) => match g with | (x33, x34, x35) => pm_ev C_X11_busiest (d + 1) (pm_call M cost zext d) cost (false, false) 108 0 0 Q 74 [some (.ref 0), some (.int a1), some (.int x33), some (.int x34), some (.int x35)] [] 0 0 (zS 19 7 I [(26, none, y30), (29, none, y31), (52, none, y29), (53, some 0, fun _ => y27), (53, some 1, fun _ => o7), (53, some 3, fun _ => o3), (54, none, y25), (55, none, y28), (56, none, y26), (57, none, o6), (72, none, y32)] J [(53, some 2, fun _ => o9)]))) ?_ zFU ((0 : Int32), (-1 : Int32), (0 : Int32)) h
    rintro ⟨x33, x34, x35⟩ h
    refine g_iload (pc' := 76)  hc rfl rfl rfl ?_
    refine g_bipush (pc' := 78) (v := (36 : Int32)) hc rfl zkb_36 rfl ?_
    refine g_icmp_ge (pc' := 81) hc rfl rfl (fun hx => ?_) (fun hx => ?_)
    · replace h := zwp_t h hx
      replace h := zwp_r h
      exact h (some (.int x33)) rfl (some (.int x35)) rfl
    · replace h := zwp_f h hx
      refine g_aload_n (pc' := 82)  hc rfl rfl rfl rfl ?_
      refine z_getR (pc' := 85)  hc rfl rfl rfl sh_0 rfl rfl ?_
      refine g_iload (pc' := 87)  hc rfl rfl rfl ?_
      have hb := (zwp_bnd h).1
      replace h := (zwp_bnd h).2
      refine z_iaload (pc' := 88) (v := (y32 x35.toNatClampNeg)) hc rfl rfl sh_72 hb rfl rfl ?_
      refine g_iload_n (pc' := 89)  hc rfl rfl rfl ?_
      refine g_icmp_le (pc' := 92) hc rfl rfl (fun hx => ?_) (fun hx => ?_)
      · replace h := zwp_t h hx
        refine g_iinc (pc' := 106) (ls1 := [some (.ref 0), some (.int a1), some (.int x33), some (.int x34), some (.int (x35 + (1 : Int32)))]) hc rfl rfl zki_1 (zlt rfl) rfl rfl ?_
        refine g_goto hc rfl ?_
        replace h := zwp_l h
        exact h
      · replace h := zwp_f h hx
        refine g_aload_n (pc' := 93)  hc rfl rfl rfl rfl ?_
        refine z_getR (pc' := 96)  hc rfl rfl rfl sh_0 rfl rfl ?_
        refine g_iload (pc' := 98)  hc rfl rfl rfl ?_
        have hb := (zwp_bnd h).1
        replace h := (zwp_bnd h).2
        refine z_iaload (pc' := 99) (v := (y32 x35.toNatClampNeg)) hc rfl rfl sh_72 hb rfl rfl ?_
        refine g_istore_n (pc' := 100) (ls1 := [some (.ref 0), some (.int a1), some (.int (y32 x35.toNatClampNeg)), some (.int x34), some (.int x35)]) hc rfl (zlt rfl) rfl rfl ?_
        refine g_iload (pc' := 102)  hc rfl rfl rfl ?_
        refine g_istore_n (pc' := 103) (ls1 := [some (.ref 0), some (.int a1), some (.int (y32 x35.toNatClampNeg)), some (.int x35), some (.int x35)]) hc rfl (zlt rfl) rfl rfl ?_
        refine g_iinc (pc' := 106) (ls1 := [some (.ref 0), some (.int a1), some (.int (y32 x35.toNatClampNeg)), some (.int x35), some (.int (x35 + (1 : Int32)))]) hc rfl rfl zki_1 (zlt rfl) rfl rfl ?_
        refine g_goto hc rfl ?_
        replace h := zwp_l h
        exact h
  refine zitr_ev (G := (fun (g : Int32 × (Nat → Int32) × (Nat → Int32) × Int32 × (Nat → Int32) × (Nat → Int32) × (Nat → Int32) × (Nat → Int32) × (Nat → Int32)) => match g with | (x13, x15, x16, x17, x18, x19, x20, x21, x22) => ∀ z14 : Option Value, znl z14 = true → pm_ev C_X11_busiest (d + 1) (pm_call M cost zext d) cost (false, false) 108 0 0 Q 15 [some (.ref 0), some (.int a1), some (.int x13), z14, none] [] 0 0 (zS 19 7 I [(26, none, x20), (29, none, x21), (52, none, x19), (53, some 0, fun _ => x17), (53, some 1, fun _ => o7), (53, some 3, fun _ => o3), (54, none, x15), (55, none, x18), (56, none, x16), (57, none, o6), (72, none, x22)] J [(53, some 2, fun _ => o9)]))) ?_ zFU ((0 : Int32), o2, o4, o5, o8, o10, o11, o12, o1) h none rfl
  rintro ⟨x13, x15, x16, x17, x18, x19, x20, x21, x22⟩ h z14 hz14
  refine g_iload_n (pc' := 16)  hc rfl rfl rfl ?_
  refine g_iload_n (pc' := 17)  hc rfl rfl rfl ?_
  refine g_icmp_ge (pc' := 20) hc rfl rfl (fun hx => ?_) (fun hx => ?_)
  · replace h := zwp_t h hx
    replace h := zwp_r h
    exact h (some (.int x13)) rfl z14 hz14
  · replace h := zwp_f h hx
    refine g_aload_n (pc' := 21)  hc rfl rfl rfl rfl ?_
    refine z_virt (as := []) (a := 0) (r := []) hc rfl rfl rfl rfl sh_0 rfl zco_140 rfl rfl rfl ?_
    refine ok_X11_passFuture_0_q (zdp hd rfl) (zwp_mono (zwp_bind h) ?_)
    rintro ⟨o39, o40, o41, o42, o43, o44, o45⟩ h
    refine z_po (pc' := 24) (st' := []) (v := none) (L' := [(26, none, o44), (29, none, o45), (52, none, o43), (53, some 0, fun _ => o41), (53, some 1, fun _ => o7), (53, some 3, fun _ => o3), (54, none, o39), (55, none, o42), (56, none, o40), (57, none, o6), (72, none, x22)]) (K' := [(53, some 2, fun _ => o9)]) zco_140 rfl rfl rfl rfl rfl rfl rfl rfl ?_
    refine g_iconst (pc' := 25) (v := (0 : Int32)) hc rfl zki_0 rfl ?_
    refine g_istore_n (pc' := 26) (ls1 := [some (.ref 0), some (.int a1), some (.int x13), some (.int (0 : Int32)), none]) hc rfl (zlt rfl) rfl rfl ?_
    refine zjn (G := (fun (y49 : (Nat → Int32)) => ∀ z48 : Option Value, znl z48 = true → pm_ev C_X11_busiest (d + 1) (pm_call M cost zext d) cost (false, false) 108 0 0 Q 61 [some (.ref 0), some (.int a1), some (.int x13), z48, none] [] 0 0 (zS 19 7 I [(26, none, o44), (29, none, o45), (52, none, o43), (53, some 0, fun _ => o41), (53, some 1, fun _ => o7), (53, some 3, fun _ => o3), (54, none, o39), (55, none, o42), (56, none, o40), (57, none, o6), (72, none, y49)] J [(53, some 2, fun _ => o9)]))) (zwp_bind h) ?_ (fun h => ?_)
    · rintro y49 h z48 hz48
      refine g_iinc (pc' := 64) (ls1 := [some (.ref 0), some (.int a1), some (.int (x13 + (1 : Int32))), z48, none]) hc rfl rfl zki_1 (zlt rfl) rfl rfl ?_
      refine g_goto hc rfl ?_
      replace h := zwp_l h
      exact h z48 hz48
    refine zitr_ev (G := (fun (g : Int32 × (Nat → Int32)) => match g with | (x46, x47) => pm_ev C_X11_busiest (d + 1) (pm_call M cost zext d) cost (false, false) 108 0 0 Q 26 [some (.ref 0), some (.int a1), some (.int x13), some (.int x46), none] [] 0 0 (zS 19 7 I [(26, none, o44), (29, none, o45), (52, none, o43), (53, some 0, fun _ => o41), (53, some 1, fun _ => o7), (53, some 3, fun _ => o3), (54, none, o39), (55, none, o42), (56, none, o40), (57, none, o6), (72, none, x47)] J [(53, some 2, fun _ => o9)]))) ?_ zFU ((0 : Int32), x22) h
    rintro ⟨x46, x47⟩ h
    refine g_iload_n (pc' := 27)  hc rfl rfl rfl ?_
    refine g_aload_n (pc' := 28)  hc rfl rfl rfl rfl ?_
    refine z_getR (pc' := 31)  hc rfl rfl rfl sh_0 rfl rfl ?_
    refine z_getI (pc' := 34) (v := (I 19 3)) hc rfl rfl rfl sh_19 rfl rfl rfl ?_
    refine g_icmp_ge (pc' := 37) hc rfl rfl (fun hx => ?_) (fun hx => ?_)
    · replace h := zwp_t h hx
      replace h := zwp_r h
      exact h (some (.int x46)) rfl
    · replace h := zwp_f h hx
      refine g_aload_n (pc' := 38)  hc rfl rfl rfl rfl ?_
      refine z_getR (pc' := 41)  hc rfl rfl rfl sh_0 rfl rfl ?_
      refine g_aload_n (pc' := 42)  hc rfl rfl rfl rfl ?_
      refine z_getR (pc' := 45)  hc rfl rfl rfl sh_0 rfl rfl ?_
      refine z_getR (pc' := 48)  hc rfl rfl rfl sh_53 rfl rfl ?_
      refine g_iload_n (pc' := 49)  hc rfl rfl rfl ?_
      have hb := (zwp_bnd h).1
      replace h := (zwp_bnd h).2
      refine z_iaload (pc' := 50) (v := (o39 x46.toNatClampNeg)) hc rfl rfl sh_54 hb rfl rfl ?_
      refine g_dup2 (pc' := 51)  hc rfl rfl rfl rfl ?_
      have hb := (zwp_bnd h).1
      replace h := (zwp_bnd h).2
      refine z_iaload (pc' := 52) (v := (x47 (o39 x46.toNatClampNeg).toNatClampNeg)) hc rfl rfl sh_72 hb rfl rfl ?_
      refine g_iconst (pc' := 53) (v := (1 : Int32)) hc rfl zki_1 rfl ?_
      refine g_iadd (pc' := 54)  hc rfl rfl ?_
      have hb := (zwp_bnd h).1
      replace h := (zwp_bnd h).2
      refine z_iastore (pc' := 55) (g := x47) (L' := [(26, none, o44), (29, none, o45), (52, none, o43), (53, some 0, fun _ => o41), (53, some 1, fun _ => o7), (53, some 3, fun _ => o3), (54, none, o39), (55, none, o42), (56, none, o40), (57, none, o6), (72, none, (upd x47 (o39 x46.toNatClampNeg).toNatClampNeg ((x47 (o39 x46.toNatClampNeg).toNatClampNeg) + (1 : Int32))))]) hc rfl rfl sh_72 hb rfl rfl rfl rfl ?_
      refine g_iinc (pc' := 58) (ls1 := [some (.ref 0), some (.int a1), some (.int x13), some (.int (x46 + (1 : Int32))), none]) hc rfl rfl zki_1 (zlt rfl) rfl rfl ?_
      refine g_goto hc rfl ?_
      replace h := zwp_l h
      exact h
set_option maxRecDepth 4000 in
theorem ok_X11_sorest_0_q {I : pI} {J : pJ} {a1 : Int32} {Q : pQ} {d : Nat} (hd : 7 ≤ d) (h : zwp (f_X11_sorest a1 (I 54) (I 53 3) (I 56) (I 53 0) (I 57) (I 53 1) (I 55) (J 53 2) (I 52) (I 32) (I 31 3) (I 34) (I 31 0) (I 35) (I 31 1) (I 33) (J 31 2) (I 19 12) (I 19 3) (I 27) (I 25 2) (I 26) (I 19 1) (I 30) (I 28 2) (I 29) (I 24) (I 19 9) (I 21) (I 22) (I 19 0)) (fun w => match w with | (r, o0, o1, o2, o3, o4, o5, o6, o7, o8, o9, o10) => Q (.inl (some (.int r))) (zS 19 7 I [(26, none, o9), (29, none, o10), (52, none, o8), (53, some 0, fun _ => o3), (53, some 1, fun _ => o5), (53, some 3, fun _ => o1), (54, none, o0), (55, none, o6), (56, none, o2), (57, none, o4)] J [(53, some 2, fun _ => o7)]))) : pm_call M cost zext d 148 [.ref 0, .int a1] (pm_st 108 (shp 19 7) I J) Q := by
  obtain ⟨d, rfl⟩ := zd1 hd rfl
  have hc := pm_call_m (M := M) (cost := cost) zext_m d
  refine z_in (L := [(26, none, (I 26)), (29, none, (I 29)), (52, none, (I 52)), (53, some 0, fun _ => (I 53 0)), (53, some 1, fun _ => (I 53 1)), (53, some 3, fun _ => (I 53 3)), (54, none, (I 54)), (55, none, (I 55)), (56, none, (I 56)), (57, none, (I 57))]) (K := [(53, some 2, fun _ => (J 53 2))]) (ls := [some (.ref 0), some (.int a1), none, none, none]) zmt_148 zco_148 rfl rfl (zid_a (zid_a (zid_a (zid_s (zid_s (zid_s (zid_a (zid_a (zid_a (zid_a zid_n)))))))))) (zid_s zid_n) ?_
  delta f_X11_sorest at h
  refine g_aload_n (pc' := 1)  hc rfl rfl rfl rfl ?_
  refine g_iload_n (pc' := 2)  hc rfl rfl rfl ?_
  refine z_virt (as := [.int a1]) (a := 0) (r := []) hc rfl rfl rfl rfl sh_0 rfl zco_139 rfl rfl rfl ?_
  refine ok_X11_foresee_0_q (zdp hd rfl) (zwp_mono (zwp_bind h) ?_)
  rintro ⟨o1, o2, o3, o4, o5, o6, o7, o8, o9, o10, o11⟩ h
  refine z_po (pc' := 5) (st' := []) (v := none) (L' := [(26, none, o10), (29, none, o11), (52, none, o9), (53, some 0, fun _ => o4), (53, some 1, fun _ => o6), (53, some 3, fun _ => o2), (54, none, o1), (55, none, o7), (56, none, o3), (57, none, o5)]) (K' := [(53, some 2, fun _ => o8)]) zco_139 rfl rfl rfl rfl rfl rfl rfl rfl ?_
  refine g_iconst (pc' := 6) (v := (0 : Int32)) hc rfl zki_0 rfl ?_
  refine g_istore_n (pc' := 7) (ls1 := [some (.ref 0), some (.int a1), some (.int (0 : Int32)), none, none]) hc rfl (zlt rfl) rfl rfl ?_
  refine g_iconst (pc' := 8) (v := (-1 : Int32)) hc rfl zki_m1 rfl ?_
  refine g_istore_n (pc' := 9) (ls1 := [some (.ref 0), some (.int a1), some (.int (0 : Int32)), some (.int (-1 : Int32)), none]) hc rfl (zlt rfl) rfl rfl ?_
  refine g_iconst (pc' := 10) (v := (0 : Int32)) hc rfl zki_0 rfl ?_
  refine g_istore (pc' := 12) (ls1 := [some (.ref 0), some (.int a1), some (.int (0 : Int32)), some (.int (-1 : Int32)), some (.int (0 : Int32))]) hc rfl (zlt rfl) rfl rfl ?_
  refine zjn (G := (fun (y16 : Int32) => ∀ z15 : Option Value, znl z15 = true → ∀ z17 : Option Value, znl z17 = true → pm_ev C_X11_sorest (d + 1) (pm_call M cost zext d) cost (false, false) 108 0 0 Q 58 [some (.ref 0), some (.int a1), z15, some (.int y16), z17] [] 0 0 (zS 19 7 I [(26, none, o10), (29, none, o11), (52, none, o9), (53, some 0, fun _ => o4), (53, some 1, fun _ => o6), (53, some 3, fun _ => o2), (54, none, o1), (55, none, o7), (56, none, o3), (57, none, o5)] J [(53, some 2, fun _ => o8)]))) (zwp_bind h) ?_ (fun h => ?_)
  · rintro y16 h z15 hz15 z17 hz17
    refine g_iload_n (pc' := 59)  hc rfl rfl rfl ?_
    replace h := zws h
    exact g_ireturn hc rfl rfl rfl (fun _ => ⟨rfl, rfl⟩) h
  refine zitr_ev (G := (fun (g : Int32 × Int32 × Int32) => match g with | (x12, x13, x14) => pm_ev C_X11_sorest (d + 1) (pm_call M cost zext d) cost (false, false) 108 0 0 Q 12 [some (.ref 0), some (.int a1), some (.int x12), some (.int x13), some (.int x14)] [] 0 0 (zS 19 7 I [(26, none, o10), (29, none, o11), (52, none, o9), (53, some 0, fun _ => o4), (53, some 1, fun _ => o6), (53, some 3, fun _ => o2), (54, none, o1), (55, none, o7), (56, none, o3), (57, none, o5)] J [(53, some 2, fun _ => o8)]))) ?_ zFU ((0 : Int32), (-1 : Int32), (0 : Int32)) h
  rintro ⟨x12, x13, x14⟩ h
  refine g_iload (pc' := 14)  hc rfl rfl rfl ?_
  refine g_aload_n (pc' := 15)  hc rfl rfl rfl rfl ?_
  refine z_getR (pc' := 18)  hc rfl rfl rfl sh_0 rfl rfl ?_
  refine z_getI (pc' := 21) (v := (I 19 3)) hc rfl rfl rfl sh_19 rfl rfl rfl ?_
  refine g_icmp_ge (pc' := 24) hc rfl rfl (fun hx => ?_) (fun hx => ?_)
  · replace h := zwp_t h hx
    replace h := zwp_r h
    exact h (some (.int x12)) rfl (some (.int x14)) rfl
  · replace h := zwp_f h hx
    refine g_aload_n (pc' := 25)  hc rfl rfl rfl rfl ?_
    refine z_getR (pc' := 28)  hc rfl rfl rfl sh_0 rfl rfl ?_
    refine z_getR (pc' := 31)  hc rfl rfl rfl sh_53 rfl rfl ?_
    refine g_iload (pc' := 33)  hc rfl rfl rfl ?_
    have hb := (zwp_bnd h).1
    replace h := (zwp_bnd h).2
    refine z_iaload (pc' := 34) (v := (o7 x14.toNatClampNeg)) hc rfl rfl sh_55 hb rfl rfl ?_
    refine g_iload_n (pc' := 35)  hc rfl rfl rfl ?_
    refine g_icmp_le (pc' := 38) hc rfl rfl (fun hx => ?_) (fun hx => ?_)
    · replace h := zwp_t h hx
      refine g_iinc (pc' := 55) (ls1 := [some (.ref 0), some (.int a1), some (.int x12), some (.int x13), some (.int (x14 + (1 : Int32)))]) hc rfl rfl zki_1 (zlt rfl) rfl rfl ?_
      refine g_goto hc rfl ?_
      replace h := zwp_l h
      exact h
    · replace h := zwp_f h hx
      refine g_aload_n (pc' := 39)  hc rfl rfl rfl rfl ?_
      refine z_getR (pc' := 42)  hc rfl rfl rfl sh_0 rfl rfl ?_
      refine z_getR (pc' := 45)  hc rfl rfl rfl sh_53 rfl rfl ?_
      refine g_iload (pc' := 47)  hc rfl rfl rfl ?_
      have hb := (zwp_bnd h).1
      replace h := (zwp_bnd h).2
      refine z_iaload (pc' := 48) (v := (o7 x14.toNatClampNeg)) hc rfl rfl sh_55 hb rfl rfl ?_
      refine g_istore_n (pc' := 49) (ls1 := [some (.ref 0), some (.int a1), some (.int (o7 x14.toNatClampNeg)), some (.int x13), some (.int x14)]) hc rfl (zlt rfl) rfl rfl ?_
      refine g_iload (pc' := 51)  hc rfl rfl rfl ?_
      refine g_istore_n (pc' := 52) (ls1 := [some (.ref 0), some (.int a1), some (.int (o7 x14.toNatClampNeg)), some (.int x14), some (.int x14)]) hc rfl (zlt rfl) rfl rfl ?_
      refine g_iinc (pc' := 55) (ls1 := [some (.ref 0), some (.int a1), some (.int (o7 x14.toNatClampNeg)), some (.int x14), some (.int (x14 + (1 : Int32)))]) hc rfl rfl zki_1 (zlt rfl) rfl rfl ?_
      refine g_goto hc rfl ?_
      replace h := zwp_l h
      exact h
set_option maxRecDepth 4000 in
theorem ok_X11_alone_0_q {I : pI} {J : pJ} {a1 : Int32} {Q : pQ} {d : Nat} (hd : 7 ≤ d) (h : zwp (f_X11_alone a1 (I 54) (I 53 3) (I 56) (I 53 0) (I 57) (I 53 1) (I 55) (J 53 2) (I 52) (I 32) (I 31 3) (I 34) (I 31 0) (I 35) (I 31 1) (I 33) (J 31 2) (I 19 12) (I 19 3) (I 27) (I 25 2) (I 26) (I 19 1) (I 30) (I 28 2) (I 29) (I 24) (I 19 9) (I 21) (I 22) (I 19 0)) (fun w => match w with | (r, o0, o1, o2, o3, o4, o5, o6, o7, o8, o9, o10) => Q (.inl (some (.int r))) (zS 19 7 I [(26, none, o9), (29, none, o10), (52, none, o8), (53, some 0, fun _ => o3), (53, some 1, fun _ => o5), (53, some 3, fun _ => o1), (54, none, o0), (55, none, o6), (56, none, o2), (57, none, o4)] J [(53, some 2, fun _ => o7)]))) : pm_call M cost zext d 149 [.ref 0, .int a1] (pm_st 108 (shp 19 7) I J) Q := by
  obtain ⟨d, rfl⟩ := zd1 hd rfl
  have hc := pm_call_m (M := M) (cost := cost) zext_m d
  refine z_in (L := [(26, none, (I 26)), (29, none, (I 29)), (52, none, (I 52)), (53, some 0, fun _ => (I 53 0)), (53, some 1, fun _ => (I 53 1)), (53, some 3, fun _ => (I 53 3)), (54, none, (I 54)), (55, none, (I 55)), (56, none, (I 56)), (57, none, (I 57))]) (K := [(53, some 2, fun _ => (J 53 2))]) (ls := [some (.ref 0), some (.int a1), none, none]) zmt_149 zco_149 rfl rfl (zid_a (zid_a (zid_a (zid_s (zid_s (zid_s (zid_a (zid_a (zid_a (zid_a zid_n)))))))))) (zid_s zid_n) ?_
  delta f_X11_alone at h
  refine g_aload_n (pc' := 1)  hc rfl rfl rfl rfl ?_
  refine g_iconst (pc' := 2) (v := (0 : Int32)) hc rfl zki_0 rfl ?_
  refine z_virt (as := [.int (0 : Int32)]) (a := 0) (r := []) hc rfl rfl rfl rfl sh_0 rfl zco_139 rfl rfl rfl ?_
  refine ok_X11_foresee_0_q (zdp hd rfl) (zwp_mono (zwp_bind h) ?_)
  rintro ⟨o1, o2, o3, o4, o5, o6, o7, o8, o9, o10, o11⟩ h
  refine z_po (pc' := 5) (st' := []) (v := none) (L' := [(26, none, o10), (29, none, o11), (52, none, o9), (53, some 0, fun _ => o4), (53, some 1, fun _ => o6), (53, some 3, fun _ => o2), (54, none, o1), (55, none, o7), (56, none, o3), (57, none, o5)]) (K' := [(53, some 2, fun _ => o8)]) zco_139 rfl rfl rfl rfl rfl rfl rfl rfl ?_
  refine g_aload_n (pc' := 6)  hc rfl rfl rfl rfl ?_
  refine z_getR (pc' := 9)  hc rfl rfl rfl sh_0 rfl rfl ?_
  refine z_virt (as := []) (a := 53) (r := []) hc rfl rfl rfl rfl sh_53 rfl zco_74 rfl rfl rfl ?_
  refine ok_X8_aloneBits_53 (zdp hd rfl) (zwp_mono (zwp_bind h) ?_)
  rintro r12 h
  refine z_po (pc' := 12) (st' := [.int r12]) (v := (some (.int r12))) (L' := [(26, none, o10), (29, none, o11), (52, none, o9), (53, some 0, fun _ => o4), (53, some 1, fun _ => o6), (53, some 3, fun _ => o2), (54, none, o1), (55, none, o7), (56, none, o3), (57, none, o5)]) (K' := [(53, some 2, fun _ => o8)]) zco_74 rfl rfl rfl rfl rfl rfl rfl rfl ?_
  refine g_istore_n (pc' := 13) (ls1 := [some (.ref 0), some (.int a1), some (.int r12), none]) hc rfl (zlt rfl) rfl rfl ?_
  refine g_iconst (pc' := 14) (v := (0 : Int32)) hc rfl zki_0 rfl ?_
  refine g_istore_n (pc' := 15) (ls1 := [some (.ref 0), some (.int a1), some (.int r12), some (.int (0 : Int32))]) hc rfl (zlt rfl) rfl rfl ?_
  refine zjn (G := (fun (g : Int32 × (Nat → Int32) × (Nat → Int32) × Int32 × (Nat → Int32) × (Nat → Int32) × (Nat → Int32) × (Nat → Int32)) => match g with | (y22, y24, y25, y26, y27, y28, y29, y30) => ∀ z23 : Option Value, znl z23 = true → pm_ev C_X11_alone (d + 1) (pm_call M cost zext d) cost (false, false) 108 0 0 Q 40 [some (.ref 0), some (.int a1), some (.int y22), z23] [] 0 0 (zS 19 7 I [(26, none, y29), (29, none, y30), (52, none, y28), (53, some 0, fun _ => y26), (53, some 1, fun _ => o6), (53, some 3, fun _ => o2), (54, none, y24), (55, none, y27), (56, none, y25), (57, none, o5)] J [(53, some 2, fun _ => o8)]))) (zwp_bind h) ?_ (fun h => ?_)
  · rintro ⟨y22, y24, y25, y26, y27, y28, y29, y30⟩ h z23 hz23
    refine g_iload_n (pc' := 41)  hc rfl rfl rfl ?_
    replace h := zws h
    exact g_ireturn hc rfl rfl rfl (fun _ => ⟨rfl, rfl⟩) h
  refine zitr_ev (G := (fun (g : Int32 × Int32 × (Nat → Int32) × (Nat → Int32) × Int32 × (Nat → Int32) × (Nat → Int32) × (Nat → Int32) × (Nat → Int32)) => match g with | (x13, x14, x15, x16, x17, x18, x19, x20, x21) => pm_ev C_X11_alone (d + 1) (pm_call M cost zext d) cost (false, false) 108 0 0 Q 15 [some (.ref 0), some (.int a1), some (.int x13), some (.int x14)] [] 0 0 (zS 19 7 I [(26, none, x20), (29, none, x21), (52, none, x19), (53, some 0, fun _ => x17), (53, some 1, fun _ => o6), (53, some 3, fun _ => o2), (54, none, x15), (55, none, x18), (56, none, x16), (57, none, o5)] J [(53, some 2, fun _ => o8)]))) ?_ zFU (r12, (0 : Int32), o1, o3, o4, o7, o9, o10, o11) h
  rintro ⟨x13, x14, x15, x16, x17, x18, x19, x20, x21⟩ h
  refine g_iload_n (pc' := 16)  hc rfl rfl rfl ?_
  refine g_iload_n (pc' := 17)  hc rfl rfl rfl ?_
  refine g_icmp_ge (pc' := 20) hc rfl rfl (fun hx => ?_) (fun hx => ?_)
  · replace h := zwp_t h hx
    replace h := zwp_r h
    exact h (some (.int x14)) rfl
  · replace h := zwp_f h hx
    refine g_aload_n (pc' := 21)  hc rfl rfl rfl rfl ?_
    refine z_virt (as := []) (a := 0) (r := []) hc rfl rfl rfl rfl sh_0 rfl zco_140 rfl rfl rfl ?_
    refine ok_X11_passFuture_0_q (zdp hd rfl) (zwp_mono (zwp_bind h) ?_)
    rintro ⟨o31, o32, o33, o34, o35, o36, o37⟩ h
    refine z_po (pc' := 24) (st' := []) (v := none) (L' := [(26, none, o36), (29, none, o37), (52, none, o35), (53, some 0, fun _ => o33), (53, some 1, fun _ => o6), (53, some 3, fun _ => o2), (54, none, o31), (55, none, o34), (56, none, o32), (57, none, o5)]) (K' := [(53, some 2, fun _ => o8)]) zco_140 rfl rfl rfl rfl rfl rfl rfl rfl ?_
    refine g_iload_n (pc' := 25)  hc rfl rfl rfl ?_
    refine g_aload_n (pc' := 26)  hc rfl rfl rfl rfl ?_
    refine z_getR (pc' := 29)  hc rfl rfl rfl sh_0 rfl rfl ?_
    refine z_virt (as := []) (a := 53) (r := [.int x13]) hc rfl rfl rfl rfl sh_53 rfl zco_74 rfl rfl rfl ?_
    refine ok_X8_aloneBits_53 (zdp hd rfl) (zwp_mono (zwp_bind h) ?_)
    rintro r38 h
    refine z_po (pc' := 32) (st' := [.int r38, .int x13]) (v := (some (.int r38))) (L' := [(26, none, o36), (29, none, o37), (52, none, o35), (53, some 0, fun _ => o33), (53, some 1, fun _ => o6), (53, some 3, fun _ => o2), (54, none, o31), (55, none, o34), (56, none, o32), (57, none, o5)]) (K' := [(53, some 2, fun _ => o8)]) zco_74 rfl rfl rfl rfl rfl rfl rfl rfl ?_
    refine g_iand (pc' := 33)  hc rfl rfl ?_
    refine g_istore_n (pc' := 34) (ls1 := [some (.ref 0), some (.int a1), some (.int (x13 &&& r38)), some (.int x14)]) hc rfl (zlt rfl) rfl rfl ?_
    refine g_iinc (pc' := 37) (ls1 := [some (.ref 0), some (.int a1), some (.int (x13 &&& r38)), some (.int (x14 + (1 : Int32)))]) hc rfl rfl zki_1 (zlt rfl) rfl rfl ?_
    refine g_goto hc rfl ?_
    replace h := zwp_l h
    exact h
set_option maxRecDepth 4000 in
theorem ok_X11_stuck_0_q {I : pI} {J : pJ} {a1 : Int32} {Q : pQ} {d : Nat} (hd : 7 ≤ d) (h : zwp (f_X11_stuck a1 (I 54) (I 53 3) (I 56) (I 53 0) (I 57) (I 53 1) (I 55) (J 53 2) (I 52) (I 32) (I 31 3) (I 34) (I 31 0) (I 35) (I 31 1) (I 33) (J 31 2) (I 19 12) (I 19 3) (I 27) (I 25 2) (I 26) (I 19 1) (I 30) (I 28 2) (I 29) (I 24) (I 19 9) (I 21) (I 22) (I 19 0)) (fun w => match w with | (r, o0, o1, o2, o3, o4, o5, o6, o7, o8, o9, o10) => Q (.inl (some (.int r))) (zS 19 7 I [(26, none, o9), (29, none, o10), (52, none, o8), (53, some 0, fun _ => o3), (53, some 1, fun _ => o5), (53, some 3, fun _ => o1), (54, none, o0), (55, none, o6), (56, none, o2), (57, none, o4)] J [(53, some 2, fun _ => o7)]))) : pm_call M cost zext d 150 [.ref 0, .int a1] (pm_st 108 (shp 19 7) I J) Q := by
  obtain ⟨d, rfl⟩ := zd1 hd rfl
  have hc := pm_call_m (M := M) (cost := cost) zext_m d
  refine z_in (L := [(26, none, (I 26)), (29, none, (I 29)), (52, none, (I 52)), (53, some 0, fun _ => (I 53 0)), (53, some 1, fun _ => (I 53 1)), (53, some 3, fun _ => (I 53 3)), (54, none, (I 54)), (55, none, (I 55)), (56, none, (I 56)), (57, none, (I 57))]) (K := [(53, some 2, fun _ => (J 53 2))]) (ls := [some (.ref 0), some (.int a1), none, none]) zmt_150 zco_150 rfl rfl (zid_a (zid_a (zid_a (zid_s (zid_s (zid_s (zid_a (zid_a (zid_a (zid_a zid_n)))))))))) (zid_s zid_n) ?_
  delta f_X11_stuck at h
  refine g_aload_n (pc' := 1)  hc rfl rfl rfl rfl ?_
  refine g_iconst (pc' := 2) (v := (0 : Int32)) hc rfl zki_0 rfl ?_
  refine z_virt (as := [.int (0 : Int32)]) (a := 0) (r := []) hc rfl rfl rfl rfl sh_0 rfl zco_139 rfl rfl rfl ?_
  refine ok_X11_foresee_0_q (zdp hd rfl) (zwp_mono (zwp_bind h) ?_)
  rintro ⟨o1, o2, o3, o4, o5, o6, o7, o8, o9, o10, o11⟩ h
  refine z_po (pc' := 5) (st' := []) (v := none) (L' := [(26, none, o10), (29, none, o11), (52, none, o9), (53, some 0, fun _ => o4), (53, some 1, fun _ => o6), (53, some 3, fun _ => o2), (54, none, o1), (55, none, o7), (56, none, o3), (57, none, o5)]) (K' := [(53, some 2, fun _ => o8)]) zco_139 rfl rfl rfl rfl rfl rfl rfl rfl ?_
  refine g_iconst (pc' := 6) (v := (1 : Int32)) hc rfl zki_1 rfl ?_
  refine g_aload_n (pc' := 7)  hc rfl rfl rfl rfl ?_
  refine z_getR (pc' := 10)  hc rfl rfl rfl sh_0 rfl rfl ?_
  refine z_getI (pc' := 13) (v := (I 19 3)) hc rfl rfl rfl sh_19 rfl rfl rfl ?_
  refine g_ishl (pc' := 14)  hc rfl rfl ?_
  refine g_iconst (pc' := 15) (v := (1 : Int32)) hc rfl zki_1 rfl ?_
  refine g_isub (pc' := 16)  hc rfl rfl ?_
  refine g_istore_n (pc' := 17) (ls1 := [some (.ref 0), some (.int a1), some (.int (((1 : Int32) <<< (((I 19 3)) &&& 31)) - (1 : Int32))), none]) hc rfl (zlt rfl) rfl rfl ?_
  refine g_iconst (pc' := 18) (v := (0 : Int32)) hc rfl zki_0 rfl ?_
  refine g_istore_n (pc' := 19) (ls1 := [some (.ref 0), some (.int a1), some (.int (((1 : Int32) <<< (((I 19 3)) &&& 31)) - (1 : Int32))), some (.int (0 : Int32))]) hc rfl (zlt rfl) rfl rfl ?_
  refine zjn (G := (fun (g : Int32 × (Nat → Int32) × (Nat → Int32) × Int32 × (Nat → Int32) × (Nat → Int32) × (Nat → Int32) × (Nat → Int32)) => match g with | (y21, y23, y24, y25, y26, y27, y28, y29) => ∀ z22 : Option Value, znl z22 = true → pm_ev C_X11_stuck (d + 1) (pm_call M cost zext d) cost (false, false) 108 0 0 Q 48 [some (.ref 0), some (.int a1), some (.int y21), z22] [] 0 0 (zS 19 7 I [(26, none, y28), (29, none, y29), (52, none, y27), (53, some 0, fun _ => y25), (53, some 1, fun _ => o6), (53, some 3, fun _ => o2), (54, none, y23), (55, none, y26), (56, none, y24), (57, none, o5)] J [(53, some 2, fun _ => o8)]))) (zwp_bind h) ?_ (fun h => ?_)
  · rintro ⟨y21, y23, y24, y25, y26, y27, y28, y29⟩ h z22 hz22
    refine g_iload_n (pc' := 49)  hc rfl rfl rfl ?_
    replace h := zws h
    exact g_ireturn hc rfl rfl rfl (fun _ => ⟨rfl, rfl⟩) h
  refine zitr_ev (G := (fun (g : Int32 × Int32 × (Nat → Int32) × (Nat → Int32) × Int32 × (Nat → Int32) × (Nat → Int32) × (Nat → Int32) × (Nat → Int32)) => match g with | (x12, x13, x14, x15, x16, x17, x18, x19, x20) => pm_ev C_X11_stuck (d + 1) (pm_call M cost zext d) cost (false, false) 108 0 0 Q 19 [some (.ref 0), some (.int a1), some (.int x12), some (.int x13)] [] 0 0 (zS 19 7 I [(26, none, x19), (29, none, x20), (52, none, x18), (53, some 0, fun _ => x16), (53, some 1, fun _ => o6), (53, some 3, fun _ => o2), (54, none, x14), (55, none, x17), (56, none, x15), (57, none, o5)] J [(53, some 2, fun _ => o8)]))) ?_ zFU ((((1 : Int32) <<< (((I 19 3)) &&& 31)) - (1 : Int32)), (0 : Int32), o1, o3, o4, o7, o9, o10, o11) h
  rintro ⟨x12, x13, x14, x15, x16, x17, x18, x19, x20⟩ h
  refine g_iload_n (pc' := 20)  hc rfl rfl rfl ?_
  refine g_iload_n (pc' := 21)  hc rfl rfl rfl ?_
  refine g_icmp_ge (pc' := 24) hc rfl rfl (fun hx => ?_) (fun hx => ?_)
  · replace h := zwp_t h hx
    replace h := zwp_r h
    exact h (some (.int x13)) rfl
  · replace h := zwp_f h hx
    refine g_aload_n (pc' := 25)  hc rfl rfl rfl rfl ?_
    refine z_virt (as := []) (a := 0) (r := []) hc rfl rfl rfl rfl sh_0 rfl zco_140 rfl rfl rfl ?_
    refine ok_X11_passFuture_0_q (zdp hd rfl) (zwp_mono (zwp_bind h) ?_)
    rintro ⟨o30, o31, o32, o33, o34, o35, o36⟩ h
    refine z_po (pc' := 28) (st' := []) (v := none) (L' := [(26, none, o35), (29, none, o36), (52, none, o34), (53, some 0, fun _ => o32), (53, some 1, fun _ => o6), (53, some 3, fun _ => o2), (54, none, o30), (55, none, o33), (56, none, o31), (57, none, o5)]) (K' := [(53, some 2, fun _ => o8)]) zco_140 rfl rfl rfl rfl rfl rfl rfl rfl ?_
    refine g_iload_n (pc' := 29)  hc rfl rfl rfl ?_
    refine g_aload_n (pc' := 30)  hc rfl rfl rfl rfl ?_
    refine z_getR (pc' := 33)  hc rfl rfl rfl sh_0 rfl rfl ?_
    refine g_aload_n (pc' := 34)  hc rfl rfl rfl rfl ?_
    refine z_getR (pc' := 37)  hc rfl rfl rfl sh_0 rfl rfl ?_
    refine z_virt (as := [.ref 31]) (a := 53) (r := [.int x12]) hc rfl rfl rfl rfl sh_53 rfl zco_75 rfl rfl rfl ?_
    refine ok_X8_placedAsBits_53_31 (zdp hd rfl) (zwp_mono (zwp_bind h) ?_)
    rintro r37 h
    refine z_po (pc' := 40) (st' := [.int r37, .int x12]) (v := (some (.int r37))) (L' := [(26, none, o35), (29, none, o36), (52, none, o34), (53, some 0, fun _ => o32), (53, some 1, fun _ => o6), (53, some 3, fun _ => o2), (54, none, o30), (55, none, o33), (56, none, o31), (57, none, o5)]) (K' := [(53, some 2, fun _ => o8)]) zco_75 rfl rfl rfl rfl rfl rfl rfl rfl ?_
    refine g_iand (pc' := 41)  hc rfl rfl ?_
    refine g_istore_n (pc' := 42) (ls1 := [some (.ref 0), some (.int a1), some (.int (x12 &&& r37)), some (.int x13)]) hc rfl (zlt rfl) rfl rfl ?_
    refine g_iinc (pc' := 45) (ls1 := [some (.ref 0), some (.int a1), some (.int (x12 &&& r37)), some (.int (x13 + (1 : Int32)))]) hc rfl rfl zki_1 (zlt rfl) rfl rfl ?_
    refine g_goto hc rfl ?_
    replace h := zwp_l h
    exact h
set_option maxRecDepth 4000 in
theorem ok_X11_later_0_q {I : pI} {J : pJ} {a1 : Int32} {a2 : Int32} {Q : pQ} {d : Nat} (hd : 8 ≤ d) (h : zwp (f_X11_later a1 a2 (I 54) (I 53 3) (I 56) (I 53 0) (I 57) (I 53 1) (I 55) (J 53 2) (I 52) (I 32) (I 31 3) (I 34) (I 31 0) (I 35) (I 31 1) (I 33) (J 31 2) (I 19 12) (I 19 3) (I 27) (I 25 2) (I 26) (I 19 1) (I 30) (I 28 2) (I 29) (I 24) (I 19 9) (I 21) (I 22) (I 19 0) (I 72)) (fun w => match w with | (.inl r, o0, o1, o2, o3, o4, o5, o6, o7, o8, o9, o10, o11) => Q (.inl (some (.int r))) (zS 19 7 I [(26, none, o9), (29, none, o10), (52, none, o8), (53, some 0, fun _ => o3), (53, some 1, fun _ => o5), (53, some 3, fun _ => o1), (54, none, o0), (55, none, o6), (56, none, o2), (57, none, o4), (72, none, o11)] J [(53, some 2, fun _ => o7)]) | (.inr E, o0, o1, o2, o3, o4, o5, o6, o7, o8, o9, o10, o11) => Q (.inr E) (zS 19 7 I [(26, none, o9), (29, none, o10), (52, none, o8), (53, some 0, fun _ => o3), (53, some 1, fun _ => o5), (53, some 3, fun _ => o1), (54, none, o0), (55, none, o6), (56, none, o2), (57, none, o4), (72, none, o11)] J [(53, some 2, fun _ => o7)]))) : pm_call M cost zext d 127 [.ref 0, .int a1, .int a2] (pm_st 108 (shp 19 7) I J) Q := by
  obtain ⟨d, rfl⟩ := zd1 hd rfl
  have hc := pm_call_m (M := M) (cost := cost) zext_m d
  refine z_in (L := [(26, none, (I 26)), (29, none, (I 29)), (52, none, (I 52)), (53, some 0, fun _ => (I 53 0)), (53, some 1, fun _ => (I 53 1)), (53, some 3, fun _ => (I 53 3)), (54, none, (I 54)), (55, none, (I 55)), (56, none, (I 56)), (57, none, (I 57)), (72, none, (I 72))]) (K := [(53, some 2, fun _ => (J 53 2))]) (ls := [some (.ref 0), some (.int a1), some (.int a2)]) zmt_127 zco_127 rfl rfl (zid_a (zid_a (zid_a (zid_s (zid_s (zid_s (zid_a (zid_a (zid_a (zid_a (zid_a zid_n))))))))))) (zid_s zid_n) ?_
  delta f_X11_later at h
  refine g_iload_n (pc' := 1)  hc rfl rfl rfl ?_
  refine g_iconst (pc' := 2) (v := (3 : Int32)) hc rfl zki_3 rfl ?_
  refine z_stat (as := [.int a2, .int (3 : Int32)]) (r := []) hc rfl rfl rfl rfl zco_135 rfl rfl rfl ?_
  refine ok_X11_checkWhat (zdp hd rfl) (zwp_mono (zwp_bind h) ?_)
  rintro (⟨⟩ | E1) h
  · refine z_po (pc' := 5) (st' := []) (v := none) (L' := [(26, none, (I 26)), (29, none, (I 29)), (52, none, (I 52)), (53, some 0, fun _ => (I 53 0)), (53, some 1, fun _ => (I 53 1)), (53, some 3, fun _ => (I 53 3)), (54, none, (I 54)), (55, none, (I 55)), (56, none, (I 56)), (57, none, (I 57)), (72, none, (I 72))]) (K' := [(53, some 2, fun _ => (J 53 2))]) zco_135 rfl rfl rfl rfl rfl rfl rfl rfl ?_
    refine g_iload_n (pc' := 6)  hc rfl rfl rfl ?_
    refine g_iload_n (pc' := 7)  hc rfl rfl rfl ?_
    refine zjn (G := (fun (j2 : Int32) => pm_ev C_X11_later (d + 1) (pm_call M cost zext d) cost (false, false) 108 1 6 Q 15 [some (.ref 0), some (.int a1), some (.int a2)] [.int j2, .int a1] 0 0 (zS 19 7 I [(26, none, (I 26)), (29, none, (I 29)), (52, none, (I 52)), (53, some 0, fun _ => (I 53 0)), (53, some 1, fun _ => (I 53 1)), (53, some 3, fun _ => (I 53 3)), (54, none, (I 54)), (55, none, (I 55)), (56, none, (I 56)), (57, none, (I 57)), (72, none, (I 72))] J [(53, some 2, fun _ => (J 53 2))]))) (zwp_bind h) ?_ (fun h => ?_)
    · rintro j2 h
      refine g_bipush (pc' := 17) (v := (100 : Int32)) hc rfl zkb_100 rfl ?_
      refine z_stat (as := [.int a1, .int j2, .int (100 : Int32)]) (r := []) hc rfl rfl rfl rfl zco_136 rfl rfl rfl ?_
      refine ok_X11_checkHours (zdp hd rfl) (zwp_mono (zwp_bind h) ?_)
      rintro (⟨⟩ | E3) h
      · refine z_po (pc' := 20) (st' := []) (v := none) (L' := [(26, none, (I 26)), (29, none, (I 29)), (52, none, (I 52)), (53, some 0, fun _ => (I 53 0)), (53, some 1, fun _ => (I 53 1)), (53, some 3, fun _ => (I 53 3)), (54, none, (I 54)), (55, none, (I 55)), (56, none, (I 56)), (57, none, (I 57)), (72, none, (I 72))]) (K' := [(53, some 2, fun _ => (J 53 2))]) zco_136 rfl rfl rfl rfl rfl rfl rfl rfl ?_
        refine g_iload_n (pc' := 21)  hc rfl rfl rfl ?_
        refine g_if_ne (pc' := 24) hc rfl rfl (fun hx => ?_) (fun hx => ?_)
        · replace h := zwp_f h hx
          refine g_iload_n (pc' := 31)  hc rfl rfl rfl ?_
          refine g_iconst (pc' := 32) (v := (1 : Int32)) hc rfl zki_1 rfl ?_
          refine g_icmp_ne (pc' := 35) hc rfl rfl (fun hx => ?_) (fun hx => ?_)
          · replace h := zwp_f h hx
            refine g_iload_n (pc' := 42)  hc rfl rfl rfl ?_
            refine g_iconst (pc' := 43) (v := (2 : Int32)) hc rfl zki_2 rfl ?_
            refine g_icmp_ne (pc' := 46) hc rfl rfl (fun hx => ?_) (fun hx => ?_)
            · replace h := zwp_f h hx
              refine g_aload_n (pc' := 55)  hc rfl rfl rfl rfl ?_
              refine g_iload_n (pc' := 56)  hc rfl rfl rfl ?_
              refine z_virt (as := [.int a1]) (a := 0) (r := []) hc rfl rfl rfl rfl sh_0 rfl zco_150 rfl rfl rfl ?_
              refine ok_X11_stuck_0_q (zdp hd rfl) (zwp_mono (zwp_bind h) ?_)
              rintro ⟨r15, o4, o5, o6, o7, o8, o9, o10, o11, o12, o13, o14⟩ h
              refine z_po (pc' := 59) (st' := [.int r15]) (v := (some (.int r15))) (L' := [(26, none, o13), (29, none, o14), (52, none, o12), (53, some 0, fun _ => o7), (53, some 1, fun _ => o9), (53, some 3, fun _ => o5), (54, none, o4), (55, none, o10), (56, none, o6), (57, none, o8), (72, none, (I 72))]) (K' := [(53, some 2, fun _ => o11)]) zco_150 rfl rfl rfl rfl rfl rfl rfl rfl ?_
              replace h := zws h
              exact g_ireturn hc rfl rfl rfl (fun _ => ⟨rfl, rfl⟩) h
            · replace h := zwp_t h hx
              refine g_aload_n (pc' := 47)  hc rfl rfl rfl rfl ?_
              refine g_iload_n (pc' := 48)  hc rfl rfl rfl ?_
              refine z_virt (as := [.int a1]) (a := 0) (r := []) hc rfl rfl rfl rfl sh_0 rfl zco_149 rfl rfl rfl ?_
              refine ok_X11_alone_0_q (zdp hd rfl) (zwp_mono (zwp_bind h) ?_)
              rintro ⟨r27, o16, o17, o18, o19, o20, o21, o22, o23, o24, o25, o26⟩ h
              refine z_po (pc' := 51) (st' := [.int r27]) (v := (some (.int r27))) (L' := [(26, none, o25), (29, none, o26), (52, none, o24), (53, some 0, fun _ => o19), (53, some 1, fun _ => o21), (53, some 3, fun _ => o17), (54, none, o16), (55, none, o22), (56, none, o18), (57, none, o20), (72, none, (I 72))]) (K' := [(53, some 2, fun _ => o23)]) zco_149 rfl rfl rfl rfl rfl rfl rfl rfl ?_
              refine g_goto hc rfl ?_
              replace h := zws h
              exact g_ireturn hc rfl rfl rfl (fun _ => ⟨rfl, rfl⟩) h
          · replace h := zwp_t h hx
            refine g_aload_n (pc' := 36)  hc rfl rfl rfl rfl ?_
            refine g_iload_n (pc' := 37)  hc rfl rfl rfl ?_
            refine z_virt (as := [.int a1]) (a := 0) (r := []) hc rfl rfl rfl rfl sh_0 rfl zco_148 rfl rfl rfl ?_
            refine ok_X11_sorest_0_q (zdp hd rfl) (zwp_mono (zwp_bind h) ?_)
            rintro ⟨r39, o28, o29, o30, o31, o32, o33, o34, o35, o36, o37, o38⟩ h
            refine z_po (pc' := 40) (st' := [.int r39]) (v := (some (.int r39))) (L' := [(26, none, o37), (29, none, o38), (52, none, o36), (53, some 0, fun _ => o31), (53, some 1, fun _ => o33), (53, some 3, fun _ => o29), (54, none, o28), (55, none, o34), (56, none, o30), (57, none, o32), (72, none, (I 72))]) (K' := [(53, some 2, fun _ => o35)]) zco_148 rfl rfl rfl rfl rfl rfl rfl rfl ?_
            replace h := zws h
            exact g_ireturn hc rfl rfl rfl (fun _ => ⟨rfl, rfl⟩) h
        · replace h := zwp_t h hx
          refine g_aload_n (pc' := 25)  hc rfl rfl rfl rfl ?_
          refine g_iload_n (pc' := 26)  hc rfl rfl rfl ?_
          refine z_virt (as := [.int a1]) (a := 0) (r := []) hc rfl rfl rfl rfl sh_0 rfl zco_147 rfl rfl rfl ?_
          refine ok_X11_busiest_0_q (zdp hd rfl) (zwp_mono (zwp_bind h) ?_)
          rintro ⟨r52, o40, o41, o42, o43, o44, o45, o46, o47, o48, o49, o50, o51⟩ h
          refine z_po (pc' := 29) (st' := [.int r52]) (v := (some (.int r52))) (L' := [(26, none, o49), (29, none, o50), (52, none, o48), (53, some 0, fun _ => o43), (53, some 1, fun _ => o45), (53, some 3, fun _ => o41), (54, none, o40), (55, none, o46), (56, none, o42), (57, none, o44), (72, none, o51)]) (K' := [(53, some 2, fun _ => o47)]) zco_147 rfl rfl rfl rfl rfl rfl rfl rfl ?_
          replace h := zws h
          exact g_ireturn hc rfl rfl rfl (fun _ => ⟨rfl, rfl⟩) h
      · replace h := zws h
        exact z_pox (L' := [(26, none, (I 26)), (29, none, (I 29)), (52, none, (I 52)), (53, some 0, fun _ => (I 53 0)), (53, some 1, fun _ => (I 53 1)), (53, some 3, fun _ => (I 53 3)), (54, none, (I 54)), (55, none, (I 55)), (56, none, (I 56)), (57, none, (I 57)), (72, none, (I 72))]) (K' := [(53, some 2, fun _ => (J 53 2))]) rfl rfl rfl rfl rfl rfl rfl h
    refine g_if_ne (pc' := 10) hc rfl rfl (fun hx => ?_) (fun hx => ?_)
    · replace h := zwp_f h hx
      refine g_iconst (pc' := 15) (v := (0 : Int32)) hc rfl zki_0 rfl ?_
      replace h := zws h
      exact h
    · replace h := zwp_t h hx
      refine g_iconst (pc' := 11) (v := (1 : Int32)) hc rfl zki_1 rfl ?_
      refine g_goto hc rfl ?_
      replace h := zws h
      exact h
  · replace h := zws h
    exact z_pox (L' := [(26, none, (I 26)), (29, none, (I 29)), (52, none, (I 52)), (53, some 0, fun _ => (I 53 0)), (53, some 1, fun _ => (I 53 1)), (53, some 3, fun _ => (I 53 3)), (54, none, (I 54)), (55, none, (I 55)), (56, none, (I 56)), (57, none, (I 57)), (72, none, (I 72))]) (K' := [(53, some 2, fun _ => (J 53 2))]) rfl rfl rfl rfl rfl rfl rfl h
set_option maxRecDepth 4000 in
theorem ok_L_later_0_107_q {I : pI} {J : pJ} {a1 : Int32} {a2 : Int32} {Q : pQ} {d : Nat} (hd : 9 ≤ d) (h : zwp (f_L_later a1 a2 1 (J 107) (I 54) (I 53 3) (I 56) (I 53 0) (I 57) (I 53 1) (I 55) (J 53 2) (I 52) (I 32) (I 31 3) (I 34) (I 31 0) (I 35) (I 31 1) (I 33) (J 31 2) (I 19 12) (I 19 3) (I 27) (I 25 2) (I 26) (I 19 1) (I 30) (I 28 2) (I 29) (I 24) (I 19 9) (I 21) (I 22) (I 19 0) (I 72)) (fun w => match w with | (r, o0, o1, o2, o3, o4, o5, o6, o7, o8, o9, o10, o11, o12) => Q (.inl (some (.int r))) (zS 19 7 I [(26, none, o10), (29, none, o11), (52, none, o9), (53, some 0, fun _ => o4), (53, some 1, fun _ => o6), (53, some 3, fun _ => o2), (54, none, o1), (55, none, o7), (56, none, o3), (57, none, o5), (72, none, o12)] J [(53, some 2, fun _ => o8), (107, none, o0)]))) : pm_call M cost zext d 296 [.ref 0, .int a1, .int a2, .ref 107] (pm_st 108 (shp 19 7) I J) Q := by
  obtain ⟨d, rfl⟩ := zd1 hd rfl
  have hc := pm_call_m (M := M) (cost := cost) zext_m d
  refine z_in (L := [(26, none, (I 26)), (29, none, (I 29)), (52, none, (I 52)), (53, some 0, fun _ => (I 53 0)), (53, some 1, fun _ => (I 53 1)), (53, some 3, fun _ => (I 53 3)), (54, none, (I 54)), (55, none, (I 55)), (56, none, (I 56)), (57, none, (I 57)), (72, none, (I 72))]) (K := [(53, some 2, fun _ => (J 53 2)), (107, none, (J 107))]) (ls := [some (.ref 0), some (.int a1), some (.int a2), some (.ref 107), none]) zmt_296 zco_296 rfl rfl (zid_a (zid_a (zid_a (zid_s (zid_s (zid_s (zid_a (zid_a (zid_a (zid_a (zid_a zid_n))))))))))) (zid_s (zid_a zid_n)) ?_
  delta f_L_later at h
  refine g_aload_n (pc' := 1)  hc rfl rfl rfl rfl ?_
  refine g_iconst (pc' := 2) (v := (0 : Int32)) hc rfl zki_0 rfl ?_
  refine g_aload_n (pc' := 3)  hc rfl rfl rfl rfl ?_
  refine g_iload_n (pc' := 4)  hc rfl rfl rfl ?_
  refine g_iload_n (pc' := 5)  hc rfl rfl rfl ?_
  refine z_virt (as := [.int a1, .int a2]) (a := 0) (r := [.int (0 : Int32), .ref 107]) hc rfl rfl rfl rfl sh_0 rfl zco_127 rfl rfl rfl ?_
  refine ok_X11_later_0_q (zdp hd rfl) (zwp_mono (zwp_bind h) ?_)
  rintro ⟨(r13 | E14), o1, o2, o3, o4, o5, o6, o7, o8, o9, o10, o11, o12⟩ h
  · refine z_po (pc' := 8) (st' := [.int r13, .int (0 : Int32), .ref 107]) (v := (some (.int r13))) (L' := [(26, none, o10), (29, none, o11), (52, none, o9), (53, some 0, fun _ => o4), (53, some 1, fun _ => o6), (53, some 3, fun _ => o2), (54, none, o1), (55, none, o7), (56, none, o3), (57, none, o5), (72, none, o12)]) (K' := [(53, some 2, fun _ => o8), (107, none, (J 107))]) zco_127 rfl rfl rfl rfl rfl rfl rfl rfl ?_
    refine g_i2l (pc' := 9)  hc rfl rfl ?_
    have hb := (zwp_bnd h).1
    replace h := (zwp_bnd h).2
    refine z_lastore (pc' := 10) (g := (J 107)) (K' := [(53, some 2, fun _ => o8), (107, none, (vp_updL ((J 107)) (0 : Int32).toNatClampNeg r13.toInt64))]) hc rfl rfl sh_107 hb rfl rfl rfl rfl ?_
    refine g_goto hc rfl ?_
    refine g_iconst (pc' := 22) (v := (0 : Int32)) hc rfl zki_0 rfl ?_
    replace h := zws h
    exact g_ireturn hc rfl rfl rfl (fun _ => ⟨rfl, rfl⟩) h
  · by_cases hE : E14 = x_N
    · replace h := zwp_t h hE
      replace h := zws h
      exact z_poh (L' := [(26, none, o10), (29, none, o11), (52, none, o9), (53, some 0, fun _ => o4), (53, some 1, fun _ => o6), (53, some 3, fun _ => o2), (54, none, o1), (55, none, o7), (56, none, o3), (57, none, o5), (72, none, o12)]) (K' := [(53, some 2, fun _ => o8), (107, none, (J 107))]) (zhd2a (e := 10) (pc := 5) rfl hE) rfl rfl rfl rfl rfl rfl rfl rfl h
    replace h := zwp_f h hE
    have hN := hE
    by_cases hE : E14 = x_I
    · replace h := zwp_t h hE
      replace h := zws h
      exact z_poh (L' := [(26, none, o10), (29, none, o11), (52, none, o9), (53, some 0, fun _ => o4), (53, some 1, fun _ => o6), (53, some 3, fun _ => o2), (54, none, o1), (55, none, o7), (56, none, o3), (57, none, o5), (72, none, o12)]) (K' := [(53, some 2, fun _ => o8), (107, none, (J 107))]) (zhd2b (e := 10) (pc := 5) rfl hN hE) rfl rfl rfl rfl rfl rfl rfl rfl h
    replace h := zwp_f h hE
    exact (zwn h).elim
set_option maxRecDepth 4000 in
theorem ok_X11_together_0_q {I : pI} {J : pJ} {a1 : Int32} {a2 : Int32} {a3 : Int32} {Q : pQ} {d : Nat} (hd : 8 ≤ d) (h : zwp (f_X11_together a1 a2 a3 (I 54) (I 53 3) (I 56) (I 53 0) (I 57) (I 53 1) (I 55) (J 53 2) (I 52) (I 32) (I 31 3) (I 34) (I 31 0) (I 35) (I 31 1) (I 33) (J 31 2) (I 19 12) (I 19 3) (I 27) (I 25 2) (I 26) (I 19 1) (I 30) (I 28 2) (I 29) (I 24) (I 19 9) (I 21) (I 22) (I 19 0)) (fun w => match w with | (.inl r, o0, o1, o2, o3, o4, o5, o6, o7, o8, o9, o10) => Q (.inl (some (.int r))) (zS 19 7 I [(26, none, o9), (29, none, o10), (52, none, o8), (53, some 0, fun _ => o3), (53, some 1, fun _ => o5), (53, some 3, fun _ => o1), (54, none, o0), (55, none, o6), (56, none, o2), (57, none, o4)] J [(53, some 2, fun _ => o7)]) | (.inr E, o0, o1, o2, o3, o4, o5, o6, o7, o8, o9, o10) => Q (.inr E) (zS 19 7 I [(26, none, o9), (29, none, o10), (52, none, o8), (53, some 0, fun _ => o3), (53, some 1, fun _ => o5), (53, some 3, fun _ => o1), (54, none, o0), (55, none, o6), (56, none, o2), (57, none, o4)] J [(53, some 2, fun _ => o7)]))) : pm_call M cost zext d 128 [.ref 0, .int a1, .int a2, .int a3] (pm_st 108 (shp 19 7) I J) Q := by
  obtain ⟨d, rfl⟩ := zd1 hd rfl
  have hc := pm_call_m (M := M) (cost := cost) zext_m d
  refine z_in (L := [(26, none, (I 26)), (29, none, (I 29)), (52, none, (I 52)), (53, some 0, fun _ => (I 53 0)), (53, some 1, fun _ => (I 53 1)), (53, some 3, fun _ => (I 53 3)), (54, none, (I 54)), (55, none, (I 55)), (56, none, (I 56)), (57, none, (I 57))]) (K := [(53, some 2, fun _ => (J 53 2))]) (ls := [some (.ref 0), some (.int a1), some (.int a2), some (.int a3), none, none]) zmt_128 zco_128 rfl rfl (zid_a (zid_a (zid_a (zid_s (zid_s (zid_s (zid_a (zid_a (zid_a (zid_a zid_n)))))))))) (zid_s zid_n) ?_
  delta f_X11_together at h
  refine g_aload_n (pc' := 1)  hc rfl rfl rfl rfl ?_
  refine g_iload_n (pc' := 2)  hc rfl rfl rfl ?_
  refine z_virt (as := [.int a1]) (a := 0) (r := []) hc rfl rfl rfl rfl sh_0 rfl zco_133 rfl rfl rfl ?_
  refine ok_X11_checkFigure_0_q (zdp hd rfl) (zwp_mono (zwp_bind h) ?_)
  rintro (⟨⟩ | E1) h
  · refine z_po (pc' := 5) (st' := []) (v := none) (L' := [(26, none, (I 26)), (29, none, (I 29)), (52, none, (I 52)), (53, some 0, fun _ => (I 53 0)), (53, some 1, fun _ => (I 53 1)), (53, some 3, fun _ => (I 53 3)), (54, none, (I 54)), (55, none, (I 55)), (56, none, (I 56)), (57, none, (I 57))]) (K' := [(53, some 2, fun _ => (J 53 2))]) zco_133 rfl rfl rfl rfl rfl rfl rfl rfl ?_
    refine g_aload_n (pc' := 6)  hc rfl rfl rfl rfl ?_
    refine g_iload_n (pc' := 7)  hc rfl rfl rfl ?_
    refine z_virt (as := [.int a2]) (a := 0) (r := []) hc rfl rfl rfl rfl sh_0 rfl zco_133 rfl rfl rfl ?_
    refine ok_X11_checkFigure_0_q (zdp hd rfl) (zwp_mono (zwp_bind h) ?_)
    rintro (⟨⟩ | E2) h
    · refine z_po (pc' := 10) (st' := []) (v := none) (L' := [(26, none, (I 26)), (29, none, (I 29)), (52, none, (I 52)), (53, some 0, fun _ => (I 53 0)), (53, some 1, fun _ => (I 53 1)), (53, some 3, fun _ => (I 53 3)), (54, none, (I 54)), (55, none, (I 55)), (56, none, (I 56)), (57, none, (I 57))]) (K' := [(53, some 2, fun _ => (J 53 2))]) zco_133 rfl rfl rfl rfl rfl rfl rfl rfl ?_
      refine g_iload_n (pc' := 11)  hc rfl rfl rfl ?_
      refine g_iconst (pc' := 12) (v := (1 : Int32)) hc rfl zki_1 rfl ?_
      refine g_bipush (pc' := 14) (v := (100 : Int32)) hc rfl zkb_100 rfl ?_
      refine z_stat (as := [.int a3, .int (1 : Int32), .int (100 : Int32)]) (r := []) hc rfl rfl rfl rfl zco_136 rfl rfl rfl ?_
      refine ok_X11_checkHours (zdp hd rfl) (zwp_mono (zwp_bind h) ?_)
      rintro (⟨⟩ | E3) h
      · refine z_po (pc' := 17) (st' := []) (v := none) (L' := [(26, none, (I 26)), (29, none, (I 29)), (52, none, (I 52)), (53, some 0, fun _ => (I 53 0)), (53, some 1, fun _ => (I 53 1)), (53, some 3, fun _ => (I 53 3)), (54, none, (I 54)), (55, none, (I 55)), (56, none, (I 56)), (57, none, (I 57))]) (K' := [(53, some 2, fun _ => (J 53 2))]) zco_136 rfl rfl rfl rfl rfl rfl rfl rfl ?_
        refine g_aload_n (pc' := 18)  hc rfl rfl rfl rfl ?_
        refine g_iconst (pc' := 19) (v := (0 : Int32)) hc rfl zki_0 rfl ?_
        refine z_virt (as := [.int (0 : Int32)]) (a := 0) (r := []) hc rfl rfl rfl rfl sh_0 rfl zco_139 rfl rfl rfl ?_
        refine ok_X11_foresee_0_q (zdp hd rfl) (zwp_mono (zwp_bind h) ?_)
        rintro ⟨o4, o5, o6, o7, o8, o9, o10, o11, o12, o13, o14⟩ h
        refine z_po (pc' := 22) (st' := []) (v := none) (L' := [(26, none, o13), (29, none, o14), (52, none, o12), (53, some 0, fun _ => o7), (53, some 1, fun _ => o9), (53, some 3, fun _ => o5), (54, none, o4), (55, none, o10), (56, none, o6), (57, none, o8)]) (K' := [(53, some 2, fun _ => o11)]) zco_139 rfl rfl rfl rfl rfl rfl rfl rfl ?_
        refine g_iconst (pc' := 23) (v := (0 : Int32)) hc rfl zki_0 rfl ?_
        refine g_istore (pc' := 25) (ls1 := [some (.ref 0), some (.int a1), some (.int a2), some (.int a3), some (.int (0 : Int32)), none]) hc rfl (zlt rfl) rfl rfl ?_
        refine g_iconst (pc' := 26) (v := (0 : Int32)) hc rfl zki_0 rfl ?_
        refine g_istore (pc' := 28) (ls1 := [some (.ref 0), some (.int a1), some (.int a2), some (.int a3), some (.int (0 : Int32)), some (.int (0 : Int32))]) hc rfl (zlt rfl) rfl rfl ?_
        refine zjn (G := (fun (g : Int32 × (Nat → Int32) × (Nat → Int32) × Int32 × (Nat → Int32) × (Nat → Int32) × (Nat → Int32) × (Nat → Int32)) => match g with | (y24, y26, y27, y28, y29, y30, y31, y32) => ∀ z25 : Option Value, znl z25 = true → pm_ev C_X11_together (d + 1) (pm_call M cost zext d) cost (false, false) 108 1 6 Q 68 [some (.ref 0), some (.int a1), some (.int a2), some (.int a3), some (.int y24), z25] [] 0 0 (zS 19 7 I [(26, none, y31), (29, none, y32), (52, none, y30), (53, some 0, fun _ => y28), (53, some 1, fun _ => o9), (53, some 3, fun _ => o5), (54, none, y26), (55, none, y29), (56, none, y27), (57, none, o8)] J [(53, some 2, fun _ => o11)]))) (zwp_bind h) ?_ (fun h => ?_)
        · rintro ⟨y24, y26, y27, y28, y29, y30, y31, y32⟩ h z25 hz25
          refine g_iload (pc' := 70)  hc rfl rfl rfl ?_
          replace h := zws h
          exact g_ireturn hc rfl rfl rfl (fun _ => ⟨rfl, rfl⟩) h
        refine zitr_ev (G := (fun (g : Int32 × Int32 × (Nat → Int32) × (Nat → Int32) × Int32 × (Nat → Int32) × (Nat → Int32) × (Nat → Int32) × (Nat → Int32)) => match g with | (x15, x16, x17, x18, x19, x20, x21, x22, x23) => pm_ev C_X11_together (d + 1) (pm_call M cost zext d) cost (false, false) 108 1 6 Q 28 [some (.ref 0), some (.int a1), some (.int a2), some (.int a3), some (.int x15), some (.int x16)] [] 0 0 (zS 19 7 I [(26, none, x22), (29, none, x23), (52, none, x21), (53, some 0, fun _ => x19), (53, some 1, fun _ => o9), (53, some 3, fun _ => o5), (54, none, x17), (55, none, x20), (56, none, x18), (57, none, o8)] J [(53, some 2, fun _ => o11)]))) ?_ zFU ((0 : Int32), (0 : Int32), o4, o6, o7, o10, o12, o13, o14) h
        rintro ⟨x15, x16, x17, x18, x19, x20, x21, x22, x23⟩ h
        refine g_iload (pc' := 30)  hc rfl rfl rfl ?_
        refine g_iload_n (pc' := 31)  hc rfl rfl rfl ?_
        refine g_icmp_ge (pc' := 34) hc rfl rfl (fun hx => ?_) (fun hx => ?_)
        · replace h := zwp_t h hx
          replace h := zwp_r h
          exact h (some (.int x16)) rfl
        · replace h := zwp_f h hx
          refine g_aload_n (pc' := 35)  hc rfl rfl rfl rfl ?_
          refine z_virt (as := []) (a := 0) (r := []) hc rfl rfl rfl rfl sh_0 rfl zco_140 rfl rfl rfl ?_
          refine ok_X11_passFuture_0_q (zdp hd rfl) (zwp_mono (zwp_bind h) ?_)
          rintro ⟨o33, o34, o35, o36, o37, o38, o39⟩ h
          refine z_po (pc' := 38) (st' := []) (v := none) (L' := [(26, none, o38), (29, none, o39), (52, none, o37), (53, some 0, fun _ => o35), (53, some 1, fun _ => o9), (53, some 3, fun _ => o5), (54, none, o33), (55, none, o36), (56, none, o34), (57, none, o8)]) (K' := [(53, some 2, fun _ => o11)]) zco_140 rfl rfl rfl rfl rfl rfl rfl rfl ?_
          refine g_aload_n (pc' := 39)  hc rfl rfl rfl rfl ?_
          refine z_getR (pc' := 42)  hc rfl rfl rfl sh_0 rfl rfl ?_
          refine z_getR (pc' := 45)  hc rfl rfl rfl sh_53 rfl rfl ?_
          refine g_iload_n (pc' := 46)  hc rfl rfl rfl ?_
          have hb := (zwp_bnd h).1
          replace h := (zwp_bnd h).2
          refine z_iaload (pc' := 47) (v := (o33 a1.toNatClampNeg)) hc rfl rfl sh_54 hb rfl rfl ?_
          refine g_aload_n (pc' := 48)  hc rfl rfl rfl rfl ?_
          refine z_getR (pc' := 51)  hc rfl rfl rfl sh_0 rfl rfl ?_
          refine z_getR (pc' := 54)  hc rfl rfl rfl sh_53 rfl rfl ?_
          refine g_iload_n (pc' := 55)  hc rfl rfl rfl ?_
          have hb := (zwp_bnd h).1
          replace h := (zwp_bnd h).2
          refine z_iaload (pc' := 56) (v := (o33 a2.toNatClampNeg)) hc rfl rfl sh_54 hb rfl rfl ?_
          refine g_icmp_ne (pc' := 59) hc rfl rfl (fun hx => ?_) (fun hx => ?_)
          · replace h := zwp_f h hx
            refine g_iinc (pc' := 65) (ls1 := [some (.ref 0), some (.int a1), some (.int a2), some (.int a3), some (.int x15), some (.int (x16 + (1 : Int32)))]) hc rfl rfl zki_1 (zlt rfl) rfl rfl ?_
            refine g_goto hc rfl ?_
            replace h := zwp_l h
            exact h
          · replace h := zwp_t h hx
            refine g_iinc (pc' := 62) (ls1 := [some (.ref 0), some (.int a1), some (.int a2), some (.int a3), some (.int (x15 + (1 : Int32))), some (.int x16)]) hc rfl rfl zki_1 (zlt rfl) rfl rfl ?_
            refine g_iinc (pc' := 65) (ls1 := [some (.ref 0), some (.int a1), some (.int a2), some (.int a3), some (.int (x15 + (1 : Int32))), some (.int (x16 + (1 : Int32)))]) hc rfl rfl zki_1 (zlt rfl) rfl rfl ?_
            refine g_goto hc rfl ?_
            replace h := zwp_l h
            exact h
      · replace h := zws h
        exact z_pox (L' := [(26, none, (I 26)), (29, none, (I 29)), (52, none, (I 52)), (53, some 0, fun _ => (I 53 0)), (53, some 1, fun _ => (I 53 1)), (53, some 3, fun _ => (I 53 3)), (54, none, (I 54)), (55, none, (I 55)), (56, none, (I 56)), (57, none, (I 57))]) (K' := [(53, some 2, fun _ => (J 53 2))]) rfl rfl rfl rfl rfl rfl rfl h
    · replace h := zws h
      exact z_pox (L' := [(26, none, (I 26)), (29, none, (I 29)), (52, none, (I 52)), (53, some 0, fun _ => (I 53 0)), (53, some 1, fun _ => (I 53 1)), (53, some 3, fun _ => (I 53 3)), (54, none, (I 54)), (55, none, (I 55)), (56, none, (I 56)), (57, none, (I 57))]) (K' := [(53, some 2, fun _ => (J 53 2))]) rfl rfl rfl rfl rfl rfl rfl h
  · replace h := zws h
    exact z_pox (L' := [(26, none, (I 26)), (29, none, (I 29)), (52, none, (I 52)), (53, some 0, fun _ => (I 53 0)), (53, some 1, fun _ => (I 53 1)), (53, some 3, fun _ => (I 53 3)), (54, none, (I 54)), (55, none, (I 55)), (56, none, (I 56)), (57, none, (I 57))]) (K' := [(53, some 2, fun _ => (J 53 2))]) rfl rfl rfl rfl rfl rfl rfl h
set_option maxRecDepth 4000 in
theorem ok_L_together_0_107_q {I : pI} {J : pJ} {a1 : Int32} {a2 : Int32} {a3 : Int32} {Q : pQ} {d : Nat} (hd : 9 ≤ d) (h : zwp (f_L_together a1 a2 a3 1 (J 107) (I 54) (I 53 3) (I 56) (I 53 0) (I 57) (I 53 1) (I 55) (J 53 2) (I 52) (I 32) (I 31 3) (I 34) (I 31 0) (I 35) (I 31 1) (I 33) (J 31 2) (I 19 12) (I 19 3) (I 27) (I 25 2) (I 26) (I 19 1) (I 30) (I 28 2) (I 29) (I 24) (I 19 9) (I 21) (I 22) (I 19 0)) (fun w => match w with | (r, o0, o1, o2, o3, o4, o5, o6, o7, o8, o9, o10, o11) => Q (.inl (some (.int r))) (zS 19 7 I [(26, none, o10), (29, none, o11), (52, none, o9), (53, some 0, fun _ => o4), (53, some 1, fun _ => o6), (53, some 3, fun _ => o2), (54, none, o1), (55, none, o7), (56, none, o3), (57, none, o5)] J [(53, some 2, fun _ => o8), (107, none, o0)]))) : pm_call M cost zext d 297 [.ref 0, .int a1, .int a2, .int a3, .ref 107] (pm_st 108 (shp 19 7) I J) Q := by
  obtain ⟨d, rfl⟩ := zd1 hd rfl
  have hc := pm_call_m (M := M) (cost := cost) zext_m d
  refine z_in (L := [(26, none, (I 26)), (29, none, (I 29)), (52, none, (I 52)), (53, some 0, fun _ => (I 53 0)), (53, some 1, fun _ => (I 53 1)), (53, some 3, fun _ => (I 53 3)), (54, none, (I 54)), (55, none, (I 55)), (56, none, (I 56)), (57, none, (I 57))]) (K := [(53, some 2, fun _ => (J 53 2)), (107, none, (J 107))]) (ls := [some (.ref 0), some (.int a1), some (.int a2), some (.int a3), some (.ref 107), none]) zmt_297 zco_297 rfl rfl (zid_a (zid_a (zid_a (zid_s (zid_s (zid_s (zid_a (zid_a (zid_a (zid_a zid_n)))))))))) (zid_s (zid_a zid_n)) ?_
  delta f_L_together at h
  refine g_aload (pc' := 2)  hc rfl rfl rfl rfl ?_
  refine g_iconst (pc' := 3) (v := (0 : Int32)) hc rfl zki_0 rfl ?_
  refine g_aload_n (pc' := 4)  hc rfl rfl rfl rfl ?_
  refine g_iload_n (pc' := 5)  hc rfl rfl rfl ?_
  refine g_iload_n (pc' := 6)  hc rfl rfl rfl ?_
  refine g_iload_n (pc' := 7)  hc rfl rfl rfl ?_
  refine z_virt (as := [.int a1, .int a2, .int a3]) (a := 0) (r := [.int (0 : Int32), .ref 107]) hc rfl rfl rfl rfl sh_0 rfl zco_128 rfl rfl rfl ?_
  refine ok_X11_together_0_q (zdp hd rfl) (zwp_mono (zwp_bind h) ?_)
  rintro ⟨(r12 | E13), o1, o2, o3, o4, o5, o6, o7, o8, o9, o10, o11⟩ h
  · refine z_po (pc' := 10) (st' := [.int r12, .int (0 : Int32), .ref 107]) (v := (some (.int r12))) (L' := [(26, none, o10), (29, none, o11), (52, none, o9), (53, some 0, fun _ => o4), (53, some 1, fun _ => o6), (53, some 3, fun _ => o2), (54, none, o1), (55, none, o7), (56, none, o3), (57, none, o5)]) (K' := [(53, some 2, fun _ => o8), (107, none, (J 107))]) zco_128 rfl rfl rfl rfl rfl rfl rfl rfl ?_
    refine g_i2l (pc' := 11)  hc rfl rfl ?_
    have hb := (zwp_bnd h).1
    replace h := (zwp_bnd h).2
    refine z_lastore (pc' := 12) (g := (J 107)) (K' := [(53, some 2, fun _ => o8), (107, none, (vp_updL ((J 107)) (0 : Int32).toNatClampNeg r12.toInt64))]) hc rfl rfl sh_107 hb rfl rfl rfl rfl ?_
    refine g_goto hc rfl ?_
    refine g_iconst (pc' := 24) (v := (0 : Int32)) hc rfl zki_0 rfl ?_
    replace h := zws h
    exact g_ireturn hc rfl rfl rfl (fun _ => ⟨rfl, rfl⟩) h
  · by_cases hE : E13 = x_N
    · replace h := zwp_t h hE
      replace h := zws h
      exact z_poh (L' := [(26, none, o10), (29, none, o11), (52, none, o9), (53, some 0, fun _ => o4), (53, some 1, fun _ => o6), (53, some 3, fun _ => o2), (54, none, o1), (55, none, o7), (56, none, o3), (57, none, o5)]) (K' := [(53, some 2, fun _ => o8), (107, none, (J 107))]) (zhd2a (e := 12) (pc := 7) rfl hE) rfl rfl rfl rfl rfl rfl rfl rfl h
    replace h := zwp_f h hE
    have hN := hE
    by_cases hE : E13 = x_I
    · replace h := zwp_t h hE
      replace h := zws h
      exact z_poh (L' := [(26, none, o10), (29, none, o11), (52, none, o9), (53, some 0, fun _ => o4), (53, some 1, fun _ => o6), (53, some 3, fun _ => o2), (54, none, o1), (55, none, o7), (56, none, o3), (57, none, o5)]) (K' := [(53, some 2, fun _ => o8), (107, none, (J 107))]) (zhd2b (e := 12) (pc := 7) rfl hN hE) rfl rfl rfl rfl rfl rfl rfl rfl h
    replace h := zwp_f h hE
    exact (zwn h).elim
set_option maxRecDepth 4000 in
theorem ok_X11_quiet_0_q {I : pI} {J : pJ} {a1 : Int32} {a2 : Int32} {Q : pQ} {d : Nat} (hd : 8 ≤ d) (h : zwp (f_X11_quiet a1 a2 (I 54) (I 53 3) (I 56) (I 53 0) (I 57) (I 53 1) (I 55) (J 53 2) (I 52) (I 32) (I 31 3) (I 34) (I 31 0) (I 35) (I 31 1) (I 33) (J 31 2) (I 19 12) (I 19 3) (I 27) (I 25 2) (I 26) (I 19 1) (I 30) (I 28 2) (I 29) (I 24) (I 19 9) (I 21) (I 22) (I 19 0)) (fun w => match w with | (.inl r, o0, o1, o2, o3, o4, o5, o6, o7, o8, o9, o10) => Q (.inl (some (.int r))) (zS 19 7 I [(26, none, o9), (29, none, o10), (52, none, o8), (53, some 0, fun _ => o3), (53, some 1, fun _ => o5), (53, some 3, fun _ => o1), (54, none, o0), (55, none, o6), (56, none, o2), (57, none, o4)] J [(53, some 2, fun _ => o7)]) | (.inr E, o0, o1, o2, o3, o4, o5, o6, o7, o8, o9, o10) => Q (.inr E) (zS 19 7 I [(26, none, o9), (29, none, o10), (52, none, o8), (53, some 0, fun _ => o3), (53, some 1, fun _ => o5), (53, some 3, fun _ => o1), (54, none, o0), (55, none, o6), (56, none, o2), (57, none, o4)] J [(53, some 2, fun _ => o7)]))) : pm_call M cost zext d 129 [.ref 0, .int a1, .int a2] (pm_st 108 (shp 19 7) I J) Q := by
  obtain ⟨d, rfl⟩ := zd1 hd rfl
  have hc := pm_call_m (M := M) (cost := cost) zext_m d
  refine z_in (L := [(26, none, (I 26)), (29, none, (I 29)), (52, none, (I 52)), (53, some 0, fun _ => (I 53 0)), (53, some 1, fun _ => (I 53 1)), (53, some 3, fun _ => (I 53 3)), (54, none, (I 54)), (55, none, (I 55)), (56, none, (I 56)), (57, none, (I 57))]) (K := [(53, some 2, fun _ => (J 53 2))]) (ls := [some (.ref 0), some (.int a1), some (.int a2), none, none]) zmt_129 zco_129 rfl rfl (zid_a (zid_a (zid_a (zid_s (zid_s (zid_s (zid_a (zid_a (zid_a (zid_a zid_n)))))))))) (zid_s zid_n) ?_
  delta f_X11_quiet at h
  refine g_aload_n (pc' := 1)  hc rfl rfl rfl rfl ?_
  refine g_iload_n (pc' := 2)  hc rfl rfl rfl ?_
  refine z_virt (as := [.int a1]) (a := 0) (r := []) hc rfl rfl rfl rfl sh_0 rfl zco_134 rfl rfl rfl ?_
  refine ok_X11_checkCell_0_q (zdp hd rfl) (zwp_mono (zwp_bind h) ?_)
  rintro (⟨⟩ | E1) h
  · refine z_po (pc' := 5) (st' := []) (v := none) (L' := [(26, none, (I 26)), (29, none, (I 29)), (52, none, (I 52)), (53, some 0, fun _ => (I 53 0)), (53, some 1, fun _ => (I 53 1)), (53, some 3, fun _ => (I 53 3)), (54, none, (I 54)), (55, none, (I 55)), (56, none, (I 56)), (57, none, (I 57))]) (K' := [(53, some 2, fun _ => (J 53 2))]) zco_134 rfl rfl rfl rfl rfl rfl rfl rfl ?_
    refine g_iload_n (pc' := 6)  hc rfl rfl rfl ?_
    refine g_iconst (pc' := 7) (v := (1 : Int32)) hc rfl zki_1 rfl ?_
    refine g_bipush (pc' := 9) (v := (100 : Int32)) hc rfl zkb_100 rfl ?_
    refine z_stat (as := [.int a2, .int (1 : Int32), .int (100 : Int32)]) (r := []) hc rfl rfl rfl rfl zco_136 rfl rfl rfl ?_
    refine ok_X11_checkHours (zdp hd rfl) (zwp_mono (zwp_bind h) ?_)
    rintro (⟨⟩ | E2) h
    · refine z_po (pc' := 12) (st' := []) (v := none) (L' := [(26, none, (I 26)), (29, none, (I 29)), (52, none, (I 52)), (53, some 0, fun _ => (I 53 0)), (53, some 1, fun _ => (I 53 1)), (53, some 3, fun _ => (I 53 3)), (54, none, (I 54)), (55, none, (I 55)), (56, none, (I 56)), (57, none, (I 57))]) (K' := [(53, some 2, fun _ => (J 53 2))]) zco_136 rfl rfl rfl rfl rfl rfl rfl rfl ?_
      refine g_aload_n (pc' := 13)  hc rfl rfl rfl rfl ?_
      refine g_iconst (pc' := 14) (v := (0 : Int32)) hc rfl zki_0 rfl ?_
      refine z_virt (as := [.int (0 : Int32)]) (a := 0) (r := []) hc rfl rfl rfl rfl sh_0 rfl zco_139 rfl rfl rfl ?_
      refine ok_X11_foresee_0_q (zdp hd rfl) (zwp_mono (zwp_bind h) ?_)
      rintro ⟨o3, o4, o5, o6, o7, o8, o9, o10, o11, o12, o13⟩ h
      refine z_po (pc' := 17) (st' := []) (v := none) (L' := [(26, none, o12), (29, none, o13), (52, none, o11), (53, some 0, fun _ => o6), (53, some 1, fun _ => o8), (53, some 3, fun _ => o4), (54, none, o3), (55, none, o9), (56, none, o5), (57, none, o7)]) (K' := [(53, some 2, fun _ => o10)]) zco_139 rfl rfl rfl rfl rfl rfl rfl rfl ?_
      refine g_iconst (pc' := 18) (v := (0 : Int32)) hc rfl zki_0 rfl ?_
      refine g_istore_n (pc' := 19) (ls1 := [some (.ref 0), some (.int a1), some (.int a2), some (.int (0 : Int32)), none]) hc rfl (zlt rfl) rfl rfl ?_
      refine g_iconst (pc' := 20) (v := (0 : Int32)) hc rfl zki_0 rfl ?_
      refine g_istore (pc' := 22) (ls1 := [some (.ref 0), some (.int a1), some (.int a2), some (.int (0 : Int32)), some (.int (0 : Int32))]) hc rfl (zlt rfl) rfl rfl ?_
      refine zjn (G := (fun (g : Int32 × (Nat → Int32) × (Nat → Int32) × Int32 × (Nat → Int32) × (Nat → Int32) × (Nat → Int32) × (Nat → Int32)) => match g with | (y23, y25, y26, y27, y28, y29, y30, y31) => ∀ z24 : Option Value, znl z24 = true → pm_ev C_X11_quiet (d + 1) (pm_call M cost zext d) cost (false, false) 108 1 6 Q 52 [some (.ref 0), some (.int a1), some (.int a2), some (.int y23), z24] [] 0 0 (zS 19 7 I [(26, none, y30), (29, none, y31), (52, none, y29), (53, some 0, fun _ => y27), (53, some 1, fun _ => o8), (53, some 3, fun _ => o4), (54, none, y25), (55, none, y28), (56, none, y26), (57, none, o7)] J [(53, some 2, fun _ => o10)]))) (zwp_bind h) ?_ (fun h => ?_)
      · rintro ⟨y23, y25, y26, y27, y28, y29, y30, y31⟩ h z24 hz24
        refine g_iload_n (pc' := 53)  hc rfl rfl rfl ?_
        replace h := zws h
        exact g_ireturn hc rfl rfl rfl (fun _ => ⟨rfl, rfl⟩) h
      refine zitr_ev (G := (fun (g : Int32 × Int32 × (Nat → Int32) × (Nat → Int32) × Int32 × (Nat → Int32) × (Nat → Int32) × (Nat → Int32) × (Nat → Int32)) => match g with | (x14, x15, x16, x17, x18, x19, x20, x21, x22) => pm_ev C_X11_quiet (d + 1) (pm_call M cost zext d) cost (false, false) 108 1 6 Q 22 [some (.ref 0), some (.int a1), some (.int a2), some (.int x14), some (.int x15)] [] 0 0 (zS 19 7 I [(26, none, x21), (29, none, x22), (52, none, x20), (53, some 0, fun _ => x18), (53, some 1, fun _ => o8), (53, some 3, fun _ => o4), (54, none, x16), (55, none, x19), (56, none, x17), (57, none, o7)] J [(53, some 2, fun _ => o10)]))) ?_ zFU ((0 : Int32), (0 : Int32), o3, o5, o6, o9, o11, o12, o13) h
      rintro ⟨x14, x15, x16, x17, x18, x19, x20, x21, x22⟩ h
      refine g_iload (pc' := 24)  hc rfl rfl rfl ?_
      refine g_iload_n (pc' := 25)  hc rfl rfl rfl ?_
      refine g_icmp_ge (pc' := 28) hc rfl rfl (fun hx => ?_) (fun hx => ?_)
      · replace h := zwp_t h hx
        replace h := zwp_r h
        exact h (some (.int x15)) rfl
      · replace h := zwp_f h hx
        refine g_aload_n (pc' := 29)  hc rfl rfl rfl rfl ?_
        refine z_virt (as := []) (a := 0) (r := []) hc rfl rfl rfl rfl sh_0 rfl zco_140 rfl rfl rfl ?_
        refine ok_X11_passFuture_0_q (zdp hd rfl) (zwp_mono (zwp_bind h) ?_)
        rintro ⟨o32, o33, o34, o35, o36, o37, o38⟩ h
        refine z_po (pc' := 32) (st' := []) (v := none) (L' := [(26, none, o37), (29, none, o38), (52, none, o36), (53, some 0, fun _ => o34), (53, some 1, fun _ => o8), (53, some 3, fun _ => o4), (54, none, o32), (55, none, o35), (56, none, o33), (57, none, o7)]) (K' := [(53, some 2, fun _ => o10)]) zco_140 rfl rfl rfl rfl rfl rfl rfl rfl ?_
        refine g_aload_n (pc' := 33)  hc rfl rfl rfl rfl ?_
        refine z_getR (pc' := 36)  hc rfl rfl rfl sh_0 rfl rfl ?_
        refine g_iload_n (pc' := 37)  hc rfl rfl rfl ?_
        refine z_virt (as := [.int a1]) (a := 53) (r := []) hc rfl rfl rfl rfl sh_53 rfl zco_72 rfl rfl rfl ?_
        refine ok_X8_figuresAt_53 (zdp hd rfl) (zwp_mono (zwp_bind h) ?_)
        rintro r39 h
        refine z_po (pc' := 40) (st' := [.int r39]) (v := (some (.int r39))) (L' := [(26, none, o37), (29, none, o38), (52, none, o36), (53, some 0, fun _ => o34), (53, some 1, fun _ => o8), (53, some 3, fun _ => o4), (54, none, o32), (55, none, o35), (56, none, o33), (57, none, o7)]) (K' := [(53, some 2, fun _ => o10)]) zco_72 rfl rfl rfl rfl rfl rfl rfl rfl ?_
        refine g_if_ne (pc' := 43) hc rfl rfl (fun hx => ?_) (fun hx => ?_)
        · replace h := zwp_f h hx
          refine g_iinc (pc' := 49) (ls1 := [some (.ref 0), some (.int a1), some (.int a2), some (.int x14), some (.int (x15 + (1 : Int32)))]) hc rfl rfl zki_1 (zlt rfl) rfl rfl ?_
          refine g_goto hc rfl ?_
          replace h := zwp_l h
          exact h
        · replace h := zwp_t h hx
          refine g_iinc (pc' := 46) (ls1 := [some (.ref 0), some (.int a1), some (.int a2), some (.int (x14 + (1 : Int32))), some (.int x15)]) hc rfl rfl zki_1 (zlt rfl) rfl rfl ?_
          refine g_iinc (pc' := 49) (ls1 := [some (.ref 0), some (.int a1), some (.int a2), some (.int (x14 + (1 : Int32))), some (.int (x15 + (1 : Int32)))]) hc rfl rfl zki_1 (zlt rfl) rfl rfl ?_
          refine g_goto hc rfl ?_
          replace h := zwp_l h
          exact h
    · replace h := zws h
      exact z_pox (L' := [(26, none, (I 26)), (29, none, (I 29)), (52, none, (I 52)), (53, some 0, fun _ => (I 53 0)), (53, some 1, fun _ => (I 53 1)), (53, some 3, fun _ => (I 53 3)), (54, none, (I 54)), (55, none, (I 55)), (56, none, (I 56)), (57, none, (I 57))]) (K' := [(53, some 2, fun _ => (J 53 2))]) rfl rfl rfl rfl rfl rfl rfl h
  · replace h := zws h
    exact z_pox (L' := [(26, none, (I 26)), (29, none, (I 29)), (52, none, (I 52)), (53, some 0, fun _ => (I 53 0)), (53, some 1, fun _ => (I 53 1)), (53, some 3, fun _ => (I 53 3)), (54, none, (I 54)), (55, none, (I 55)), (56, none, (I 56)), (57, none, (I 57))]) (K' := [(53, some 2, fun _ => (J 53 2))]) rfl rfl rfl rfl rfl rfl rfl h
set_option maxRecDepth 4000 in
theorem ok_L_quiet_0_107_q {I : pI} {J : pJ} {a1 : Int32} {a2 : Int32} {Q : pQ} {d : Nat} (hd : 9 ≤ d) (h : zwp (f_L_quiet a1 a2 1 (J 107) (I 54) (I 53 3) (I 56) (I 53 0) (I 57) (I 53 1) (I 55) (J 53 2) (I 52) (I 32) (I 31 3) (I 34) (I 31 0) (I 35) (I 31 1) (I 33) (J 31 2) (I 19 12) (I 19 3) (I 27) (I 25 2) (I 26) (I 19 1) (I 30) (I 28 2) (I 29) (I 24) (I 19 9) (I 21) (I 22) (I 19 0)) (fun w => match w with | (r, o0, o1, o2, o3, o4, o5, o6, o7, o8, o9, o10, o11) => Q (.inl (some (.int r))) (zS 19 7 I [(26, none, o10), (29, none, o11), (52, none, o9), (53, some 0, fun _ => o4), (53, some 1, fun _ => o6), (53, some 3, fun _ => o2), (54, none, o1), (55, none, o7), (56, none, o3), (57, none, o5)] J [(53, some 2, fun _ => o8), (107, none, o0)]))) : pm_call M cost zext d 298 [.ref 0, .int a1, .int a2, .ref 107] (pm_st 108 (shp 19 7) I J) Q := by
  obtain ⟨d, rfl⟩ := zd1 hd rfl
  have hc := pm_call_m (M := M) (cost := cost) zext_m d
  refine z_in (L := [(26, none, (I 26)), (29, none, (I 29)), (52, none, (I 52)), (53, some 0, fun _ => (I 53 0)), (53, some 1, fun _ => (I 53 1)), (53, some 3, fun _ => (I 53 3)), (54, none, (I 54)), (55, none, (I 55)), (56, none, (I 56)), (57, none, (I 57))]) (K := [(53, some 2, fun _ => (J 53 2)), (107, none, (J 107))]) (ls := [some (.ref 0), some (.int a1), some (.int a2), some (.ref 107), none]) zmt_298 zco_298 rfl rfl (zid_a (zid_a (zid_a (zid_s (zid_s (zid_s (zid_a (zid_a (zid_a (zid_a zid_n)))))))))) (zid_s (zid_a zid_n)) ?_
  delta f_L_quiet at h
  refine g_aload_n (pc' := 1)  hc rfl rfl rfl rfl ?_
  refine g_iconst (pc' := 2) (v := (0 : Int32)) hc rfl zki_0 rfl ?_
  refine g_aload_n (pc' := 3)  hc rfl rfl rfl rfl ?_
  refine g_iload_n (pc' := 4)  hc rfl rfl rfl ?_
  refine g_iload_n (pc' := 5)  hc rfl rfl rfl ?_
  refine z_virt (as := [.int a1, .int a2]) (a := 0) (r := [.int (0 : Int32), .ref 107]) hc rfl rfl rfl rfl sh_0 rfl zco_129 rfl rfl rfl ?_
  refine ok_X11_quiet_0_q (zdp hd rfl) (zwp_mono (zwp_bind h) ?_)
  rintro ⟨(r12 | E13), o1, o2, o3, o4, o5, o6, o7, o8, o9, o10, o11⟩ h
  · refine z_po (pc' := 8) (st' := [.int r12, .int (0 : Int32), .ref 107]) (v := (some (.int r12))) (L' := [(26, none, o10), (29, none, o11), (52, none, o9), (53, some 0, fun _ => o4), (53, some 1, fun _ => o6), (53, some 3, fun _ => o2), (54, none, o1), (55, none, o7), (56, none, o3), (57, none, o5)]) (K' := [(53, some 2, fun _ => o8), (107, none, (J 107))]) zco_129 rfl rfl rfl rfl rfl rfl rfl rfl ?_
    refine g_i2l (pc' := 9)  hc rfl rfl ?_
    have hb := (zwp_bnd h).1
    replace h := (zwp_bnd h).2
    refine z_lastore (pc' := 10) (g := (J 107)) (K' := [(53, some 2, fun _ => o8), (107, none, (vp_updL ((J 107)) (0 : Int32).toNatClampNeg r12.toInt64))]) hc rfl rfl sh_107 hb rfl rfl rfl rfl ?_
    refine g_goto hc rfl ?_
    refine g_iconst (pc' := 22) (v := (0 : Int32)) hc rfl zki_0 rfl ?_
    replace h := zws h
    exact g_ireturn hc rfl rfl rfl (fun _ => ⟨rfl, rfl⟩) h
  · by_cases hE : E13 = x_N
    · replace h := zwp_t h hE
      replace h := zws h
      exact z_poh (L' := [(26, none, o10), (29, none, o11), (52, none, o9), (53, some 0, fun _ => o4), (53, some 1, fun _ => o6), (53, some 3, fun _ => o2), (54, none, o1), (55, none, o7), (56, none, o3), (57, none, o5)]) (K' := [(53, some 2, fun _ => o8), (107, none, (J 107))]) (zhd2a (e := 10) (pc := 5) rfl hE) rfl rfl rfl rfl rfl rfl rfl rfl h
    replace h := zwp_f h hE
    have hN := hE
    by_cases hE : E13 = x_I
    · replace h := zwp_t h hE
      replace h := zws h
      exact z_poh (L' := [(26, none, o10), (29, none, o11), (52, none, o9), (53, some 0, fun _ => o4), (53, some 1, fun _ => o6), (53, some 3, fun _ => o2), (54, none, o1), (55, none, o7), (56, none, o3), (57, none, o5)]) (K' := [(53, some 2, fun _ => o8), (107, none, (J 107))]) (zhd2b (e := 10) (pc := 5) rfl hN hE) rfl rfl rfl rfl rfl rfl rfl rfl h
    replace h := zwp_f h hE
    exact (zwn h).elim
set_option maxRecDepth 4000 in
theorem ok_X11_gone_0_q {I : pI} {J : pJ} {a1 : Int32} {a2 : Int32} {Q : pQ} {d : Nat} (hd : 8 ≤ d) (h : zwp (f_X11_gone a1 a2 (I 54) (I 53 3) (I 56) (I 53 0) (I 57) (I 53 1) (I 55) (J 53 2) (I 52) (I 32) (I 31 3) (I 34) (I 31 0) (I 35) (I 31 1) (I 33) (J 31 2) (I 19 12) (I 19 3) (I 27) (I 25 2) (I 26) (I 19 1) (I 30) (I 28 2) (I 29) (I 24) (I 19 9) (I 21) (I 22) (I 19 0)) (fun w => match w with | (.inl r, o0, o1, o2, o3, o4, o5, o6, o7, o8, o9, o10) => Q (.inl (some (.int r))) (zS 19 7 I [(26, none, o9), (29, none, o10), (52, none, o8), (53, some 0, fun _ => o3), (53, some 1, fun _ => o5), (53, some 3, fun _ => o1), (54, none, o0), (55, none, o6), (56, none, o2), (57, none, o4)] J [(53, some 2, fun _ => o7)]) | (.inr E, o0, o1, o2, o3, o4, o5, o6, o7, o8, o9, o10) => Q (.inr E) (zS 19 7 I [(26, none, o9), (29, none, o10), (52, none, o8), (53, some 0, fun _ => o3), (53, some 1, fun _ => o5), (53, some 3, fun _ => o1), (54, none, o0), (55, none, o6), (56, none, o2), (57, none, o4)] J [(53, some 2, fun _ => o7)]))) : pm_call M cost zext d 130 [.ref 0, .int a1, .int a2] (pm_st 108 (shp 19 7) I J) Q := by
  obtain ⟨d, rfl⟩ := zd1 hd rfl
  have hc := pm_call_m (M := M) (cost := cost) zext_m d
  refine z_in (L := [(26, none, (I 26)), (29, none, (I 29)), (52, none, (I 52)), (53, some 0, fun _ => (I 53 0)), (53, some 1, fun _ => (I 53 1)), (53, some 3, fun _ => (I 53 3)), (54, none, (I 54)), (55, none, (I 55)), (56, none, (I 56)), (57, none, (I 57))]) (K := [(53, some 2, fun _ => (J 53 2))]) (ls := [some (.ref 0), some (.int a1), some (.int a2), none, none, none]) zmt_130 zco_130 rfl rfl (zid_a (zid_a (zid_a (zid_s (zid_s (zid_s (zid_a (zid_a (zid_a (zid_a zid_n)))))))))) (zid_s zid_n) ?_
  delta f_X11_gone at h
  refine g_aload_n (pc' := 1)  hc rfl rfl rfl rfl ?_
  refine g_iload_n (pc' := 2)  hc rfl rfl rfl ?_
  refine z_virt (as := [.int a1]) (a := 0) (r := []) hc rfl rfl rfl rfl sh_0 rfl zco_133 rfl rfl rfl ?_
  refine ok_X11_checkFigure_0_q (zdp hd rfl) (zwp_mono (zwp_bind h) ?_)
  rintro (⟨⟩ | E1) h
  · refine z_po (pc' := 5) (st' := []) (v := none) (L' := [(26, none, (I 26)), (29, none, (I 29)), (52, none, (I 52)), (53, some 0, fun _ => (I 53 0)), (53, some 1, fun _ => (I 53 1)), (53, some 3, fun _ => (I 53 3)), (54, none, (I 54)), (55, none, (I 55)), (56, none, (I 56)), (57, none, (I 57))]) (K' := [(53, some 2, fun _ => (J 53 2))]) zco_133 rfl rfl rfl rfl rfl rfl rfl rfl ?_
    refine g_iload_n (pc' := 6)  hc rfl rfl rfl ?_
    refine g_iconst (pc' := 7) (v := (0 : Int32)) hc rfl zki_0 rfl ?_
    refine g_bipush (pc' := 9) (v := (100 : Int32)) hc rfl zkb_100 rfl ?_
    refine z_stat (as := [.int a2, .int (0 : Int32), .int (100 : Int32)]) (r := []) hc rfl rfl rfl rfl zco_136 rfl rfl rfl ?_
    refine ok_X11_checkHours (zdp hd rfl) (zwp_mono (zwp_bind h) ?_)
    rintro (⟨⟩ | E2) h
    · refine z_po (pc' := 12) (st' := []) (v := none) (L' := [(26, none, (I 26)), (29, none, (I 29)), (52, none, (I 52)), (53, some 0, fun _ => (I 53 0)), (53, some 1, fun _ => (I 53 1)), (53, some 3, fun _ => (I 53 3)), (54, none, (I 54)), (55, none, (I 55)), (56, none, (I 56)), (57, none, (I 57))]) (K' := [(53, some 2, fun _ => (J 53 2))]) zco_136 rfl rfl rfl rfl rfl rfl rfl rfl ?_
      refine g_aload_n (pc' := 13)  hc rfl rfl rfl rfl ?_
      refine g_iconst (pc' := 14) (v := (0 : Int32)) hc rfl zki_0 rfl ?_
      refine z_virt (as := [.int (0 : Int32)]) (a := 0) (r := []) hc rfl rfl rfl rfl sh_0 rfl zco_139 rfl rfl rfl ?_
      refine ok_X11_foresee_0_q (zdp hd rfl) (zwp_mono (zwp_bind h) ?_)
      rintro ⟨o3, o4, o5, o6, o7, o8, o9, o10, o11, o12, o13⟩ h
      refine z_po (pc' := 17) (st' := []) (v := none) (L' := [(26, none, o12), (29, none, o13), (52, none, o11), (53, some 0, fun _ => o6), (53, some 1, fun _ => o8), (53, some 3, fun _ => o4), (54, none, o3), (55, none, o9), (56, none, o5), (57, none, o7)]) (K' := [(53, some 2, fun _ => o10)]) zco_139 rfl rfl rfl rfl rfl rfl rfl rfl ?_
      refine g_iconst (pc' := 18) (v := (0 : Int32)) hc rfl zki_0 rfl ?_
      refine g_istore_n (pc' := 19) (ls1 := [some (.ref 0), some (.int a1), some (.int a2), some (.int (0 : Int32)), none, none]) hc rfl (zlt rfl) rfl rfl ?_
      refine g_iconst (pc' := 20) (v := (0 : Int32)) hc rfl zki_0 rfl ?_
      refine g_istore (pc' := 22) (ls1 := [some (.ref 0), some (.int a1), some (.int a2), some (.int (0 : Int32)), some (.int (0 : Int32)), none]) hc rfl (zlt rfl) rfl rfl ?_
      refine zjn (G := (fun (g : Int32 × (Nat → Int32) × (Nat → Int32) × Int32 × (Nat → Int32) × (Nat → Int32) × (Nat → Int32) × (Nat → Int32)) => match g with | (y24, y27, y28, y29, y30, y31, y32, y33) => ∀ z25 : Option Value, znl z25 = true → ∀ z26 : Option Value, znl z26 = true → pm_ev C_X11_gone (d + 1) (pm_call M cost zext d) cost (false, false) 108 1 6 Q 66 [some (.ref 0), some (.int a1), some (.int a2), some (.int y24), z25, z26] [] 0 0 (zS 19 7 I [(26, none, y32), (29, none, y33), (52, none, y31), (53, some 0, fun _ => y29), (53, some 1, fun _ => o8), (53, some 3, fun _ => o4), (54, none, y27), (55, none, y30), (56, none, y28), (57, none, o7)] J [(53, some 2, fun _ => o10)]))) (zwp_bind h) ?_ (fun h => ?_)
      · rintro ⟨y24, y27, y28, y29, y30, y31, y32, y33⟩ h z25 hz25 z26 hz26
        refine g_iload_n (pc' := 67)  hc rfl rfl rfl ?_
        replace h := zws h
        exact g_ireturn hc rfl rfl rfl (fun _ => ⟨rfl, rfl⟩) h
      refine zitr_ev (G := (fun (g : Int32 × Int32 × (Nat → Int32) × (Nat → Int32) × Int32 × (Nat → Int32) × (Nat → Int32) × (Nat → Int32) × (Nat → Int32)) => match g with | (x14, x15, x17, x18, x19, x20, x21, x22, x23) => ∀ z16 : Option Value, znl z16 = true → pm_ev C_X11_gone (d + 1) (pm_call M cost zext d) cost (false, false) 108 1 6 Q 22 [some (.ref 0), some (.int a1), some (.int a2), some (.int x14), some (.int x15), z16] [] 0 0 (zS 19 7 I [(26, none, x22), (29, none, x23), (52, none, x21), (53, some 0, fun _ => x19), (53, some 1, fun _ => o8), (53, some 3, fun _ => o4), (54, none, x17), (55, none, x20), (56, none, x18), (57, none, o7)] J [(53, some 2, fun _ => o10)]))) ?_ zFU ((0 : Int32), (0 : Int32), o3, o5, o6, o9, o11, o12, o13) h none rfl
      rintro ⟨x14, x15, x17, x18, x19, x20, x21, x22, x23⟩ h z16 hz16
      refine g_iload (pc' := 24)  hc rfl rfl rfl ?_
      refine g_iload_n (pc' := 25)  hc rfl rfl rfl ?_
      refine g_icmp_ge (pc' := 28) hc rfl rfl (fun hx => ?_) (fun hx => ?_)
      · replace h := zwp_t h hx
        replace h := zwp_r h
        exact h (some (.int x15)) rfl z16 hz16
      · replace h := zwp_f h hx
        refine g_aload_n (pc' := 29)  hc rfl rfl rfl rfl ?_
        refine z_getR (pc' := 32)  hc rfl rfl rfl sh_0 rfl rfl ?_
        refine z_getR (pc' := 35)  hc rfl rfl rfl sh_53 rfl rfl ?_
        refine g_iload_n (pc' := 36)  hc rfl rfl rfl ?_
        have hb := (zwp_bnd h).1
        replace h := (zwp_bnd h).2
        refine z_iaload (pc' := 37) (v := (x17 a1.toNatClampNeg)) hc rfl rfl sh_54 hb rfl rfl ?_
        refine g_istore (pc' := 39) (ls1 := [some (.ref 0), some (.int a1), some (.int a2), some (.int x14), some (.int x15), some (.int (x17 a1.toNatClampNeg))]) hc rfl (zlt rfl) rfl rfl ?_
        refine g_aload_n (pc' := 40)  hc rfl rfl rfl rfl ?_
        refine z_virt (as := []) (a := 0) (r := []) hc rfl rfl rfl rfl sh_0 rfl zco_140 rfl rfl rfl ?_
        refine ok_X11_passFuture_0_q (zdp hd rfl) (zwp_mono (zwp_bind h) ?_)
        rintro ⟨o34, o35, o36, o37, o38, o39, o40⟩ h
        refine z_po (pc' := 43) (st' := []) (v := none) (L' := [(26, none, o39), (29, none, o40), (52, none, o38), (53, some 0, fun _ => o36), (53, some 1, fun _ => o8), (53, some 3, fun _ => o4), (54, none, o34), (55, none, o37), (56, none, o35), (57, none, o7)]) (K' := [(53, some 2, fun _ => o10)]) zco_140 rfl rfl rfl rfl rfl rfl rfl rfl ?_
        refine g_aload_n (pc' := 44)  hc rfl rfl rfl rfl ?_
        refine z_getR (pc' := 47)  hc rfl rfl rfl sh_0 rfl rfl ?_
        refine z_getR (pc' := 50)  hc rfl rfl rfl sh_53 rfl rfl ?_
        refine g_iload_n (pc' := 51)  hc rfl rfl rfl ?_
        have hb := (zwp_bnd h).1
        replace h := (zwp_bnd h).2
        refine z_iaload (pc' := 52) (v := (o34 a1.toNatClampNeg)) hc rfl rfl sh_54 hb rfl rfl ?_
        refine g_iload (pc' := 54)  hc rfl rfl rfl ?_
        refine g_icmp_eq (pc' := 57) hc rfl rfl (fun hx => ?_) (fun hx => ?_)
        · replace h := zwp_t h hx
          refine g_iinc (pc' := 63) (ls1 := [some (.ref 0), some (.int a1), some (.int a2), some (.int x14), some (.int (x15 + (1 : Int32))), some (.int (x17 a1.toNatClampNeg))]) hc rfl rfl zki_1 (zlt rfl) rfl rfl ?_
          refine g_goto hc rfl ?_
          replace h := zwp_l h
          exact h (some (.int (x17 a1.toNatClampNeg))) rfl
        · replace h := zwp_f h hx
          refine g_iinc (pc' := 60) (ls1 := [some (.ref 0), some (.int a1), some (.int a2), some (.int (x14 + (1 : Int32))), some (.int x15), some (.int (x17 a1.toNatClampNeg))]) hc rfl rfl zki_1 (zlt rfl) rfl rfl ?_
          refine g_iinc (pc' := 63) (ls1 := [some (.ref 0), some (.int a1), some (.int a2), some (.int (x14 + (1 : Int32))), some (.int (x15 + (1 : Int32))), some (.int (x17 a1.toNatClampNeg))]) hc rfl rfl zki_1 (zlt rfl) rfl rfl ?_
          refine g_goto hc rfl ?_
          replace h := zwp_l h
          exact h (some (.int (x17 a1.toNatClampNeg))) rfl
    · replace h := zws h
      exact z_pox (L' := [(26, none, (I 26)), (29, none, (I 29)), (52, none, (I 52)), (53, some 0, fun _ => (I 53 0)), (53, some 1, fun _ => (I 53 1)), (53, some 3, fun _ => (I 53 3)), (54, none, (I 54)), (55, none, (I 55)), (56, none, (I 56)), (57, none, (I 57))]) (K' := [(53, some 2, fun _ => (J 53 2))]) rfl rfl rfl rfl rfl rfl rfl h
  · replace h := zws h
    exact z_pox (L' := [(26, none, (I 26)), (29, none, (I 29)), (52, none, (I 52)), (53, some 0, fun _ => (I 53 0)), (53, some 1, fun _ => (I 53 1)), (53, some 3, fun _ => (I 53 3)), (54, none, (I 54)), (55, none, (I 55)), (56, none, (I 56)), (57, none, (I 57))]) (K' := [(53, some 2, fun _ => (J 53 2))]) rfl rfl rfl rfl rfl rfl rfl h
set_option maxRecDepth 4000 in
theorem ok_L_gone_0_107_q {I : pI} {J : pJ} {a1 : Int32} {a2 : Int32} {Q : pQ} {d : Nat} (hd : 9 ≤ d) (h : zwp (f_L_gone a1 a2 1 (J 107) (I 54) (I 53 3) (I 56) (I 53 0) (I 57) (I 53 1) (I 55) (J 53 2) (I 52) (I 32) (I 31 3) (I 34) (I 31 0) (I 35) (I 31 1) (I 33) (J 31 2) (I 19 12) (I 19 3) (I 27) (I 25 2) (I 26) (I 19 1) (I 30) (I 28 2) (I 29) (I 24) (I 19 9) (I 21) (I 22) (I 19 0)) (fun w => match w with | (r, o0, o1, o2, o3, o4, o5, o6, o7, o8, o9, o10, o11) => Q (.inl (some (.int r))) (zS 19 7 I [(26, none, o10), (29, none, o11), (52, none, o9), (53, some 0, fun _ => o4), (53, some 1, fun _ => o6), (53, some 3, fun _ => o2), (54, none, o1), (55, none, o7), (56, none, o3), (57, none, o5)] J [(53, some 2, fun _ => o8), (107, none, o0)]))) : pm_call M cost zext d 299 [.ref 0, .int a1, .int a2, .ref 107] (pm_st 108 (shp 19 7) I J) Q := by
  obtain ⟨d, rfl⟩ := zd1 hd rfl
  have hc := pm_call_m (M := M) (cost := cost) zext_m d
  refine z_in (L := [(26, none, (I 26)), (29, none, (I 29)), (52, none, (I 52)), (53, some 0, fun _ => (I 53 0)), (53, some 1, fun _ => (I 53 1)), (53, some 3, fun _ => (I 53 3)), (54, none, (I 54)), (55, none, (I 55)), (56, none, (I 56)), (57, none, (I 57))]) (K := [(53, some 2, fun _ => (J 53 2)), (107, none, (J 107))]) (ls := [some (.ref 0), some (.int a1), some (.int a2), some (.ref 107), none]) zmt_299 zco_299 rfl rfl (zid_a (zid_a (zid_a (zid_s (zid_s (zid_s (zid_a (zid_a (zid_a (zid_a zid_n)))))))))) (zid_s (zid_a zid_n)) ?_
  delta f_L_gone at h
  refine g_aload_n (pc' := 1)  hc rfl rfl rfl rfl ?_
  refine g_iconst (pc' := 2) (v := (0 : Int32)) hc rfl zki_0 rfl ?_
  refine g_aload_n (pc' := 3)  hc rfl rfl rfl rfl ?_
  refine g_iload_n (pc' := 4)  hc rfl rfl rfl ?_
  refine g_iload_n (pc' := 5)  hc rfl rfl rfl ?_
  refine z_virt (as := [.int a1, .int a2]) (a := 0) (r := [.int (0 : Int32), .ref 107]) hc rfl rfl rfl rfl sh_0 rfl zco_130 rfl rfl rfl ?_
  refine ok_X11_gone_0_q (zdp hd rfl) (zwp_mono (zwp_bind h) ?_)
  rintro ⟨(r12 | E13), o1, o2, o3, o4, o5, o6, o7, o8, o9, o10, o11⟩ h
  · refine z_po (pc' := 8) (st' := [.int r12, .int (0 : Int32), .ref 107]) (v := (some (.int r12))) (L' := [(26, none, o10), (29, none, o11), (52, none, o9), (53, some 0, fun _ => o4), (53, some 1, fun _ => o6), (53, some 3, fun _ => o2), (54, none, o1), (55, none, o7), (56, none, o3), (57, none, o5)]) (K' := [(53, some 2, fun _ => o8), (107, none, (J 107))]) zco_130 rfl rfl rfl rfl rfl rfl rfl rfl ?_
    refine g_i2l (pc' := 9)  hc rfl rfl ?_
    have hb := (zwp_bnd h).1
    replace h := (zwp_bnd h).2
    refine z_lastore (pc' := 10) (g := (J 107)) (K' := [(53, some 2, fun _ => o8), (107, none, (vp_updL ((J 107)) (0 : Int32).toNatClampNeg r12.toInt64))]) hc rfl rfl sh_107 hb rfl rfl rfl rfl ?_
    refine g_goto hc rfl ?_
    refine g_iconst (pc' := 22) (v := (0 : Int32)) hc rfl zki_0 rfl ?_
    replace h := zws h
    exact g_ireturn hc rfl rfl rfl (fun _ => ⟨rfl, rfl⟩) h
  · by_cases hE : E13 = x_N
    · replace h := zwp_t h hE
      replace h := zws h
      exact z_poh (L' := [(26, none, o10), (29, none, o11), (52, none, o9), (53, some 0, fun _ => o4), (53, some 1, fun _ => o6), (53, some 3, fun _ => o2), (54, none, o1), (55, none, o7), (56, none, o3), (57, none, o5)]) (K' := [(53, some 2, fun _ => o8), (107, none, (J 107))]) (zhd2a (e := 10) (pc := 5) rfl hE) rfl rfl rfl rfl rfl rfl rfl rfl h
    replace h := zwp_f h hE
    have hN := hE
    by_cases hE : E13 = x_I
    · replace h := zwp_t h hE
      replace h := zws h
      exact z_poh (L' := [(26, none, o10), (29, none, o11), (52, none, o9), (53, some 0, fun _ => o4), (53, some 1, fun _ => o6), (53, some 3, fun _ => o2), (54, none, o1), (55, none, o7), (56, none, o3), (57, none, o5)]) (K' := [(53, some 2, fun _ => o8), (107, none, (J 107))]) (zhd2b (e := 10) (pc := 5) rfl hN hE) rfl rfl rfl rfl rfl rfl rfl rfl h
    replace h := zwp_f h hE
    exact (zwn h).elim
