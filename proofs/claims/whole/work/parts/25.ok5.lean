set_option maxRecDepth 4000 in
theorem ok_L_clouds_0_107_p {I : pI} {J : pJ} {a1 : Int32} {a2 : Int32} {a3 : Int32} {a4 : Int32} {Q : pQ} {d : Nat} (hd : 9 ≤ d) (h : zwp (f_L_clouds a1 a2 a3 a4 1 (J 107) (I 54) (I 53 3) (I 56) (I 53 0) (I 57) (I 53 1) (I 55) (J 53 2) (I 52) (I 32) (I 31 3) (I 34) (I 31 0) (I 35) (I 31 1) (I 33) (J 31 2) (I 7 3) (I 15) (I 13 2) (I 14) (I 7 1) (I 18) (I 16 2) (I 17) (I 12) (I 7 9) (I 9) (I 10) (I 7 0)) (fun w => match w with | (r, o0, o1, o2, o3, o4, o5, o6, o7, o8, o9, o10, o11) => Q (.inl (some (.int r))) (zS 7 19 I [(14, none, o10), (17, none, o11), (52, none, o9), (53, some 0, fun _ => o4), (53, some 1, fun _ => o6), (53, some 3, fun _ => o2), (54, none, o1), (55, none, o7), (56, none, o3), (57, none, o5)] J [(53, some 2, fun _ => o8), (107, none, o0)]))) : pm_call M cost zext d 293 [.ref 0, .int a1, .int a2, .int a3, .int a4, .ref 107] (pm_st 108 (shp 7 19) I J) Q := by
  obtain ⟨d, rfl⟩ := zd1 hd rfl
  have hc := pm_call_m (M := M) (cost := cost) zext_m d
  refine z_in (L := [(14, none, (I 14)), (17, none, (I 17)), (52, none, (I 52)), (53, some 0, fun _ => (I 53 0)), (53, some 1, fun _ => (I 53 1)), (53, some 3, fun _ => (I 53 3)), (54, none, (I 54)), (55, none, (I 55)), (56, none, (I 56)), (57, none, (I 57))]) (K := [(53, some 2, fun _ => (J 53 2)), (107, none, (J 107))]) (ls := [some (.ref 0), some (.int a1), some (.int a2), some (.int a3), some (.int a4), some (.ref 107), none]) zmt_293 zco_293 rfl rfl (zid_a (zid_a (zid_a (zid_s (zid_s (zid_s (zid_a (zid_a (zid_a (zid_a zid_n)))))))))) (zid_s (zid_a zid_n)) ?_
  delta f_L_clouds at h
  refine g_aload (pc' := 2)  hc rfl rfl rfl rfl ?_
  refine g_iconst (pc' := 3) (v := (0 : Int32)) hc rfl zki_0 rfl ?_
  refine g_aload_n (pc' := 4)  hc rfl rfl rfl rfl ?_
  refine g_iload_n (pc' := 5)  hc rfl rfl rfl ?_
  refine g_iload_n (pc' := 6)  hc rfl rfl rfl ?_
  refine g_iload_n (pc' := 7)  hc rfl rfl rfl ?_
  refine g_iload (pc' := 9)  hc rfl rfl rfl ?_
  refine z_virt (as := [.int a1, .int a2, .int a3, .int a4]) (a := 0) (r := [.int (0 : Int32), .ref 107]) hc rfl rfl rfl rfl sh_0 rfl zco_124 rfl rfl rfl ?_
  refine ok_X11_clouds_0_p (zdp hd rfl) (zwp_mono (zwp_bind h) ?_)
  rintro ⟨(r12 | E13), o1, o2, o3, o4, o5, o6, o7, o8, o9, o10, o11⟩ h
  · refine z_po (pc' := 12) (st' := [.int r12, .int (0 : Int32), .ref 107]) (v := (some (.int r12))) (L' := [(14, none, o10), (17, none, o11), (52, none, o9), (53, some 0, fun _ => o4), (53, some 1, fun _ => o6), (53, some 3, fun _ => o2), (54, none, o1), (55, none, o7), (56, none, o3), (57, none, o5)]) (K' := [(53, some 2, fun _ => o8), (107, none, (J 107))]) zco_124 rfl rfl rfl rfl rfl rfl rfl rfl ?_
    refine g_i2l (pc' := 13)  hc rfl rfl ?_
    have hb := (zwp_bnd h).1
    replace h := (zwp_bnd h).2
    refine z_lastore (pc' := 14) (g := (J 107)) (K' := [(53, some 2, fun _ => o8), (107, none, (vp_updL ((J 107)) (0 : Int32).toNatClampNeg r12.toInt64))]) hc rfl rfl sh_107 hb rfl rfl rfl rfl ?_
    refine g_goto hc rfl ?_
    refine g_iconst (pc' := 26) (v := (0 : Int32)) hc rfl zki_0 rfl ?_
    replace h := zws h
    exact g_ireturn hc rfl rfl rfl (fun _ => ⟨rfl, rfl⟩) h
  · by_cases hE : E13 = x_N
    · replace h := zwp_t h hE
      replace h := zws h
      exact z_poh (L' := [(14, none, o10), (17, none, o11), (52, none, o9), (53, some 0, fun _ => o4), (53, some 1, fun _ => o6), (53, some 3, fun _ => o2), (54, none, o1), (55, none, o7), (56, none, o3), (57, none, o5)]) (K' := [(53, some 2, fun _ => o8), (107, none, (J 107))]) (zhd2a (e := 14) (pc := 9) rfl hE) rfl rfl rfl rfl rfl rfl rfl rfl h
    replace h := zwp_f h hE
    have hN := hE
    by_cases hE : E13 = x_I
    · replace h := zwp_t h hE
      replace h := zws h
      exact z_poh (L' := [(14, none, o10), (17, none, o11), (52, none, o9), (53, some 0, fun _ => o4), (53, some 1, fun _ => o6), (53, some 3, fun _ => o2), (54, none, o1), (55, none, o7), (56, none, o3), (57, none, o5)]) (K' := [(53, some 2, fun _ => o8), (107, none, (J 107))]) (zhd2b (e := 14) (pc := 9) rfl hN hE) rfl rfl rfl rfl rfl rfl rfl rfl h
    replace h := zwp_f h hE
    exact (zwn h).elim
set_option maxRecDepth 4000 in
theorem ok_X11_play_0_p {I : pI} {J : pJ} {a1 : Int32} {a2 : Int32} {a3 : Int32} {Q : pQ} {d : Nat} (hd : 6 ≤ d) (h : zwp (f_X11_play a1 a2 a3 (I 54) (I 53 3) (I 56) (I 53 0) (I 57) (I 53 1) (I 55) (J 53 2) (I 74) (I 52) (I 32) (I 31 3) (I 34) (I 31 0) (I 35) (I 31 1) (I 33) (J 31 2) (I 7 12) (I 7 3) (I 15) (I 13 2) (I 14) (I 7 1) (I 18) (I 16 2) (I 17) (I 12) (I 7 9) (I 9) (I 10) (I 7 0)) (fun w => match w with | (o0, o1, o2, o3, o4, o5, o6, o7, o8, o9, o10, o11) => Q (.inl none) (zS 7 19 I [(14, none, o10), (17, none, o11), (52, none, o9), (53, some 0, fun _ => o3), (53, some 1, fun _ => o5), (53, some 3, fun _ => o1), (54, none, o0), (55, none, o6), (56, none, o2), (57, none, o4), (74, none, o8)] J [(53, some 2, fun _ => o7)]))) : pm_call M cost zext d 143 [.ref 0, .int a1, .int a2, .int a3] (pm_st 108 (shp 7 19) I J) Q := by
  obtain ⟨d, rfl⟩ := zd1 hd rfl
  have hc := pm_call_m (M := M) (cost := cost) zext_m d
  refine z_in (L := [(14, none, (I 14)), (17, none, (I 17)), (52, none, (I 52)), (53, some 0, fun _ => (I 53 0)), (53, some 1, fun _ => (I 53 1)), (53, some 3, fun _ => (I 53 3)), (54, none, (I 54)), (55, none, (I 55)), (56, none, (I 56)), (57, none, (I 57)), (74, none, (I 74))]) (K := [(53, some 2, fun _ => (J 53 2))]) (ls := [some (.ref 0), some (.int a1), some (.int a2), some (.int a3), none, none, none]) zmt_143 zco_143 rfl rfl (zid_a (zid_a (zid_a (zid_s (zid_s (zid_s (zid_a (zid_a (zid_a (zid_a (zid_a zid_n))))))))))) (zid_s zid_n) ?_
  delta f_X11_play at h
  refine g_aload_n (pc' := 1)  hc rfl rfl rfl rfl ?_
  refine z_getR (pc' := 4)  hc rfl rfl rfl sh_0 rfl rfl ?_
  refine g_aload_n (pc' := 5)  hc rfl rfl rfl rfl ?_
  refine z_getR (pc' := 8)  hc rfl rfl rfl sh_0 rfl rfl ?_
  refine z_virt (as := [.ref 31]) (a := 53) (r := []) hc rfl rfl rfl rfl sh_53 rfl zco_68 rfl rfl rfl ?_
  refine ok_X8_copyFrom_53_31 (zdp hd rfl) (zwp_mono (zwp_bind h) ?_)
  rintro ⟨o1, o2, o3, o4, o5, o6, o7, o8⟩ h
  refine z_po (pc' := 11) (st' := []) (v := none) (L' := [(14, none, (I 14)), (17, none, (I 17)), (52, none, (I 52)), (53, some 0, fun _ => o4), (53, some 1, fun _ => o6), (53, some 3, fun _ => o2), (54, none, o1), (55, none, o7), (56, none, o3), (57, none, o5), (74, none, (I 74))]) (K' := [(53, some 2, fun _ => o8)]) zco_68 rfl rfl rfl rfl rfl rfl rfl rfl ?_
  refine g_iload_n (pc' := 12)  hc rfl rfl rfl ?_
  refine g_iconst (pc' := 13) (v := (2 : Int32)) hc rfl zki_2 rfl ?_
  refine g_iand (pc' := 14)  hc rfl rfl ?_
  refine zjn (G := (fun (j9 : (Nat → Int32)) => pm_ev C_X11_play (d + 1) (pm_call M cost zext d) cost (false, false) 108 0 0 Q 27 [some (.ref 0), some (.int a1), some (.int a2), some (.int a3), none, none, none] [] 0 0 (zS 7 19 I [(14, none, (I 14)), (17, none, (I 17)), (52, none, (I 52)), (53, some 0, fun _ => o4), (53, some 1, fun _ => o6), (53, some 3, fun _ => o2), (54, none, o1), (55, none, o7), (56, none, j9), (57, none, o5), (74, none, (I 74))] J [(53, some 2, fun _ => o8)]))) (zwp_bind h) ?_ (fun h => ?_)
  · rintro j9 h
    refine g_iload_n (pc' := 28)  hc rfl rfl rfl ?_
    refine g_iconst (pc' := 29) (v := (1 : Int32)) hc rfl zki_1 rfl ?_
    refine g_iand (pc' := 30)  hc rfl rfl ?_
    refine zjn (G := (fun (j10 : (Nat → Int32)) => pm_ev C_X11_play (d + 1) (pm_call M cost zext d) cost (false, false) 108 0 0 Q 43 [some (.ref 0), some (.int a1), some (.int a2), some (.int a3), none, none, none] [] 0 0 (zS 7 19 I [(14, none, (I 14)), (17, none, (I 17)), (52, none, (I 52)), (53, some 0, fun _ => o4), (53, some 1, fun _ => o6), (53, some 3, fun _ => o2), (54, none, o1), (55, none, o7), (56, none, j10), (57, none, o5), (74, none, (I 74))] J [(53, some 2, fun _ => o8)]))) (zwp_bind h) ?_ (fun h => ?_)
    · rintro j10 h
      refine g_iconst (pc' := 44) (v := (0 : Int32)) hc rfl zki_0 rfl ?_
      refine g_istore (pc' := 46) (ls1 := [some (.ref 0), some (.int a1), some (.int a2), some (.int a3), some (.int (0 : Int32)), none, none]) hc rfl (zlt rfl) rfl rfl ?_
      refine g_iconst (pc' := 47) (v := (0 : Int32)) hc rfl zki_0 rfl ?_
      refine g_istore (pc' := 49) (ls1 := [some (.ref 0), some (.int a1), some (.int a2), some (.int a3), some (.int (0 : Int32)), some (.int (0 : Int32)), none]) hc rfl (zlt rfl) rfl rfl ?_
      refine g_iconst (pc' := 50) (v := (0 : Int32)) hc rfl zki_0 rfl ?_
      refine g_istore (pc' := 52) (ls1 := [some (.ref 0), some (.int a1), some (.int a2), some (.int a3), some (.int (0 : Int32)), some (.int (0 : Int32)), some (.int (0 : Int32))]) hc rfl (zlt rfl) rfl rfl ?_
      refine zjn (G := (fun (g : Int32 × Int32 × (Nat → Int32) × (Nat → Int32) × Int32 × (Nat → Int32) × (Nat → Int32) × (Nat → Int32) × (Nat → Int32)) => match g with | (y21, y22, y24, y25, y26, y27, y28, y29, y30) => ∀ z23 : Option Value, znl z23 = true → pm_ev C_X11_play (d + 1) (pm_call M cost zext d) cost (false, false) 108 0 0 Q 111 [some (.ref 0), some (.int a1), some (.int a2), some (.int a3), some (.int y21), some (.int y22), z23] [] 0 0 (zS 7 19 I [(14, none, y29), (17, none, y30), (52, none, y28), (53, some 0, fun _ => y26), (53, some 1, fun _ => o6), (53, some 3, fun _ => o2), (54, none, y24), (55, none, y27), (56, none, y25), (57, none, o5), (74, none, (I 74))] J [(53, some 2, fun _ => o8)]))) (zwp_bind h) ?_ (fun h => ?_)
      · rintro ⟨y21, y22, y24, y25, y26, y27, y28, y29, y30⟩ h z23 hz23
        refine g_aload_n (pc' := 112)  hc rfl rfl rfl rfl ?_
        refine z_getR (pc' := 115)  hc rfl rfl rfl sh_0 rfl rfl ?_
        refine g_iconst (pc' := 116) (v := (2 : Int32)) hc rfl zki_2 rfl ?_
        refine g_iload_n (pc' := 117)  hc rfl rfl rfl ?_
        refine g_imul (pc' := 118)  hc rfl rfl ?_
        refine g_iload (pc' := 120)  hc rfl rfl rfl ?_
        refine g_aload_n (pc' := 121)  hc rfl rfl rfl rfl ?_
        refine z_getR (pc' := 124)  hc rfl rfl rfl sh_0 rfl rfl ?_
        refine z_getR (pc' := 127)  hc rfl rfl rfl sh_53 rfl rfl ?_
        refine g_iload_n (pc' := 128)  hc rfl rfl rfl ?_
        have hb := (zwp_bnd h).1
        replace h := (zwp_bnd h).2
        refine z_iaload (pc' := 129) (v := (y27 a1.toNatClampNeg)) hc rfl rfl sh_55 hb rfl rfl ?_
        refine g_iconst (pc' := 130) (v := (2 : Int32)) hc rfl zki_2 rfl ?_
        refine g_idiv (pc' := 131)  hc rfl (by decide) rfl ?_
        refine g_isub (pc' := 132)  hc rfl rfl ?_
        have hb := (zwp_bnd h).1
        replace h := (zwp_bnd h).2
        refine z_iastore (pc' := 133) (g := (I 74)) (L' := [(14, none, y29), (17, none, y30), (52, none, y28), (53, some 0, fun _ => y26), (53, some 1, fun _ => o6), (53, some 3, fun _ => o2), (54, none, y24), (55, none, y27), (56, none, y25), (57, none, o5), (74, none, (upd ((I 74)) ((2 : Int32) * a3).toNatClampNeg (y21 - ((y27 a1.toNatClampNeg) / (2 : Int32)))))]) hc rfl rfl sh_74 hb rfl rfl rfl rfl ?_
        refine g_aload_n (pc' := 134)  hc rfl rfl rfl rfl ?_
        refine z_getR (pc' := 137)  hc rfl rfl rfl sh_0 rfl rfl ?_
        refine g_iconst (pc' := 138) (v := (2 : Int32)) hc rfl zki_2 rfl ?_
        refine g_iload_n (pc' := 139)  hc rfl rfl rfl ?_
        refine g_imul (pc' := 140)  hc rfl rfl ?_
        refine g_iconst (pc' := 141) (v := (1 : Int32)) hc rfl zki_1 rfl ?_
        refine g_iadd (pc' := 142)  hc rfl rfl ?_
        refine g_iload (pc' := 144)  hc rfl rfl rfl ?_
        refine g_aload_n (pc' := 145)  hc rfl rfl rfl rfl ?_
        refine z_getR (pc' := 148)  hc rfl rfl rfl sh_0 rfl rfl ?_
        refine z_getR (pc' := 151)  hc rfl rfl rfl sh_53 rfl rfl ?_
        refine g_iload_n (pc' := 152)  hc rfl rfl rfl ?_
        have hb := (zwp_bnd h).1
        replace h := (zwp_bnd h).2
        refine z_iaload (pc' := 153) (v := (y27 a2.toNatClampNeg)) hc rfl rfl sh_55 hb rfl rfl ?_
        refine g_iconst (pc' := 154) (v := (2 : Int32)) hc rfl zki_2 rfl ?_
        refine g_idiv (pc' := 155)  hc rfl (by decide) rfl ?_
        refine g_isub (pc' := 156)  hc rfl rfl ?_
        have hb := (zwp_bnd h).1
        replace h := (zwp_bnd h).2
        refine z_iastore (pc' := 157) (g := (upd ((I 74)) ((2 : Int32) * a3).toNatClampNeg (y21 - ((y27 a1.toNatClampNeg) / (2 : Int32))))) (L' := [(14, none, y29), (17, none, y30), (52, none, y28), (53, some 0, fun _ => y26), (53, some 1, fun _ => o6), (53, some 3, fun _ => o2), (54, none, y24), (55, none, y27), (56, none, y25), (57, none, o5), (74, none, (upd (upd ((I 74)) ((2 : Int32) * a3).toNatClampNeg (y21 - ((y27 a1.toNatClampNeg) / (2 : Int32)))) (((2 : Int32) * a3) + (1 : Int32)).toNatClampNeg (y22 - ((y27 a2.toNatClampNeg) / (2 : Int32)))))]) hc rfl rfl sh_74 hb rfl rfl rfl rfl ?_
        replace h := zws h
        exact g_return hc rfl rfl (fun _ => ⟨rfl, rfl⟩) h
      refine zitr_ev (G := (fun (g : Int32 × Int32 × Int32 × (Nat → Int32) × (Nat → Int32) × Int32 × (Nat → Int32) × (Nat → Int32) × (Nat → Int32) × (Nat → Int32)) => match g with | (x11, x12, x13, x14, x15, x16, x17, x18, x19, x20) => pm_ev C_X11_play (d + 1) (pm_call M cost zext d) cost (false, false) 108 0 0 Q 52 [some (.ref 0), some (.int a1), some (.int a2), some (.int a3), some (.int x11), some (.int x12), some (.int x13)] [] 0 0 (zS 7 19 I [(14, none, x19), (17, none, x20), (52, none, x18), (53, some 0, fun _ => x16), (53, some 1, fun _ => o6), (53, some 3, fun _ => o2), (54, none, x14), (55, none, x17), (56, none, x15), (57, none, o5), (74, none, (I 74))] J [(53, some 2, fun _ => o8)]))) ?_ zFU ((0 : Int32), (0 : Int32), (0 : Int32), o1, j10, o4, o7, (I 52), (I 14), (I 17)) h
      rintro ⟨x11, x12, x13, x14, x15, x16, x17, x18, x19, x20⟩ h
      refine g_iload (pc' := 54)  hc rfl rfl rfl ?_
      refine g_bipush (pc' := 56) (v := (8 : Int32)) hc rfl zkb_8 rfl ?_
      refine g_icmp_ge (pc' := 59) hc rfl rfl (fun hx => ?_) (fun hx => ?_)
      · replace h := zwp_t h hx
        replace h := zwp_r h
        exact h (some (.int x13)) rfl
      · replace h := zwp_f h hx
        refine g_aload_n (pc' := 60)  hc rfl rfl rfl rfl ?_
        refine z_virt (as := []) (a := 0) (r := []) hc rfl rfl rfl rfl sh_0 rfl zco_140 rfl rfl rfl ?_
        refine ok_X11_passFuture_0_p (zdp hd rfl) (zwp_mono (zwp_bind h) ?_)
        rintro ⟨o31, o32, o33, o34, o35, o36, o37⟩ h
        refine z_po (pc' := 63) (st' := []) (v := none) (L' := [(14, none, o36), (17, none, o37), (52, none, o35), (53, some 0, fun _ => o33), (53, some 1, fun _ => o6), (53, some 3, fun _ => o2), (54, none, o31), (55, none, o34), (56, none, o32), (57, none, o5), (74, none, (I 74))]) (K' := [(53, some 2, fun _ => o8)]) zco_140 rfl rfl rfl rfl rfl rfl rfl rfl ?_
        refine g_iload (pc' := 65)  hc rfl rfl rfl ?_
        refine g_aload_n (pc' := 66)  hc rfl rfl rfl rfl ?_
        refine z_getR (pc' := 69)  hc rfl rfl rfl sh_0 rfl rfl ?_
        refine g_iload_n (pc' := 70)  hc rfl rfl rfl ?_
        refine z_virt (as := [.int a1]) (a := 53) (r := [.int x11]) hc rfl rfl rfl rfl sh_53 rfl zco_73 rfl rfl rfl ?_
        refine ok_X8_othersWith_53 (zdp hd rfl) (zwp_mono (zwp_bind h) ?_)
        rintro r38 h
        refine z_po (pc' := 73) (st' := [.int r38, .int x11]) (v := (some (.int r38))) (L' := [(14, none, o36), (17, none, o37), (52, none, o35), (53, some 0, fun _ => o33), (53, some 1, fun _ => o6), (53, some 3, fun _ => o2), (54, none, o31), (55, none, o34), (56, none, o32), (57, none, o5), (74, none, (I 74))]) (K' := [(53, some 2, fun _ => o8)]) zco_73 rfl rfl rfl rfl rfl rfl rfl rfl ?_
        refine zjn (G := (fun (j39 : Int32) => pm_ev C_X11_play (d + 1) (pm_call M cost zext d) cost (false, false) 108 0 0 Q 81 [some (.ref 0), some (.int a1), some (.int a2), some (.int a3), some (.int x11), some (.int x12), some (.int x13)] [.int j39, .int x11] 0 0 (zS 7 19 I [(14, none, o36), (17, none, o37), (52, none, o35), (53, some 0, fun _ => o33), (53, some 1, fun _ => o6), (53, some 3, fun _ => o2), (54, none, o31), (55, none, o34), (56, none, o32), (57, none, o5), (74, none, (I 74))] J [(53, some 2, fun _ => o8)]))) (zwp_bind h) ?_ (fun h => ?_)
        · rintro j39 h
          refine g_iadd (pc' := 82)  hc rfl rfl ?_
          refine g_istore (pc' := 84) (ls1 := [some (.ref 0), some (.int a1), some (.int a2), some (.int a3), some (.int (x11 + j39)), some (.int x12), some (.int x13)]) hc rfl (zlt rfl) rfl rfl ?_
          refine g_iload (pc' := 86)  hc rfl rfl rfl ?_
          refine g_aload_n (pc' := 87)  hc rfl rfl rfl rfl ?_
          refine z_getR (pc' := 90)  hc rfl rfl rfl sh_0 rfl rfl ?_
          refine g_iload_n (pc' := 91)  hc rfl rfl rfl ?_
          refine z_virt (as := [.int a2]) (a := 53) (r := [.int x12]) hc rfl rfl rfl rfl sh_53 rfl zco_73 rfl rfl rfl ?_
          refine ok_X8_othersWith_53 (zdp hd rfl) (zwp_mono (zwp_bind h) ?_)
          rintro r40 h
          refine z_po (pc' := 94) (st' := [.int r40, .int x12]) (v := (some (.int r40))) (L' := [(14, none, o36), (17, none, o37), (52, none, o35), (53, some 0, fun _ => o33), (53, some 1, fun _ => o6), (53, some 3, fun _ => o2), (54, none, o31), (55, none, o34), (56, none, o32), (57, none, o5), (74, none, (I 74))]) (K' := [(53, some 2, fun _ => o8)]) zco_73 rfl rfl rfl rfl rfl rfl rfl rfl ?_
          refine zjn (G := (fun (j41 : Int32) => pm_ev C_X11_play (d + 1) (pm_call M cost zext d) cost (false, false) 108 0 0 Q 102 [some (.ref 0), some (.int a1), some (.int a2), some (.int a3), some (.int (x11 + j39)), some (.int x12), some (.int x13)] [.int j41, .int x12] 0 0 (zS 7 19 I [(14, none, o36), (17, none, o37), (52, none, o35), (53, some 0, fun _ => o33), (53, some 1, fun _ => o6), (53, some 3, fun _ => o2), (54, none, o31), (55, none, o34), (56, none, o32), (57, none, o5), (74, none, (I 74))] J [(53, some 2, fun _ => o8)]))) (zwp_bind h) ?_ (fun h => ?_)
          · rintro j41 h
            refine g_iadd (pc' := 103)  hc rfl rfl ?_
            refine g_istore (pc' := 105) (ls1 := [some (.ref 0), some (.int a1), some (.int a2), some (.int a3), some (.int (x11 + j39)), some (.int (x12 + j41)), some (.int x13)]) hc rfl (zlt rfl) rfl rfl ?_
            refine g_iinc (pc' := 108) (ls1 := [some (.ref 0), some (.int a1), some (.int a2), some (.int a3), some (.int (x11 + j39)), some (.int (x12 + j41)), some (.int (x13 + (1 : Int32)))]) hc rfl rfl zki_1 (zlt rfl) rfl rfl ?_
            refine g_goto hc rfl ?_
            replace h := zwp_l h
            exact h
          refine g_if_le (pc' := 97) hc rfl rfl (fun hx => ?_) (fun hx => ?_)
          · replace h := zwp_t h hx
            refine g_iconst (pc' := 102) (v := (0 : Int32)) hc rfl zki_0 rfl ?_
            replace h := zws h
            exact h
          · replace h := zwp_f h hx
            refine g_iconst (pc' := 98) (v := (2 : Int32)) hc rfl zki_2 rfl ?_
            refine g_goto hc rfl ?_
            replace h := zws h
            exact h
        refine g_if_le (pc' := 76) hc rfl rfl (fun hx => ?_) (fun hx => ?_)
        · replace h := zwp_t h hx
          refine g_iconst (pc' := 81) (v := (0 : Int32)) hc rfl zki_0 rfl ?_
          replace h := zws h
          exact h
        · replace h := zwp_f h hx
          refine g_iconst (pc' := 77) (v := (2 : Int32)) hc rfl zki_2 rfl ?_
          refine g_goto hc rfl ?_
          replace h := zws h
          exact h
    refine g_if_eq (pc' := 33) hc rfl rfl (fun hx => ?_) (fun hx => ?_)
    · replace h := zwp_t h hx
      replace h := zws h
      exact h
    · replace h := zwp_f h hx
      refine g_aload_n (pc' := 34)  hc rfl rfl rfl rfl ?_
      refine z_getR (pc' := 37)  hc rfl rfl rfl sh_0 rfl rfl ?_
      refine z_getR (pc' := 40)  hc rfl rfl rfl sh_53 rfl rfl ?_
      refine g_iload_n (pc' := 41)  hc rfl rfl rfl ?_
      refine g_iconst (pc' := 42) (v := (3 : Int32)) hc rfl zki_3 rfl ?_
      have hb := (zwp_bnd h).1
      replace h := (zwp_bnd h).2
      refine z_iastore (pc' := 43) (g := j9) (L' := [(14, none, (I 14)), (17, none, (I 17)), (52, none, (I 52)), (53, some 0, fun _ => o4), (53, some 1, fun _ => o6), (53, some 3, fun _ => o2), (54, none, o1), (55, none, o7), (56, none, (upd j9 a2.toNatClampNeg (3 : Int32))), (57, none, o5), (74, none, (I 74))]) hc rfl rfl sh_56 hb rfl rfl rfl rfl ?_
      replace h := zws h
      exact h
  refine g_if_eq (pc' := 17) hc rfl rfl (fun hx => ?_) (fun hx => ?_)
  · replace h := zwp_t h hx
    replace h := zws h
    exact h
  · replace h := zwp_f h hx
    refine g_aload_n (pc' := 18)  hc rfl rfl rfl rfl ?_
    refine z_getR (pc' := 21)  hc rfl rfl rfl sh_0 rfl rfl ?_
    refine z_getR (pc' := 24)  hc rfl rfl rfl sh_53 rfl rfl ?_
    refine g_iload_n (pc' := 25)  hc rfl rfl rfl ?_
    refine g_iconst (pc' := 26) (v := (3 : Int32)) hc rfl zki_3 rfl ?_
    have hb := (zwp_bnd h).1
    replace h := (zwp_bnd h).2
    refine z_iastore (pc' := 27) (g := o3) (L' := [(14, none, (I 14)), (17, none, (I 17)), (52, none, (I 52)), (53, some 0, fun _ => o4), (53, some 1, fun _ => o6), (53, some 3, fun _ => o2), (54, none, o1), (55, none, o7), (56, none, (upd o3 a1.toNatClampNeg (3 : Int32))), (57, none, o5), (74, none, (I 74))]) hc rfl rfl sh_56 hb rfl rfl rfl rfl ?_
    replace h := zws h
    exact h
set_option maxRecDepth 4000 in
theorem ok_X11_rests_0 {p q : Nat} {I : pI} {J : pJ} {a1 : Int32} {Q : pQ} {d : Nat} (hd : 1 ≤ d) (h : zwp (f_X11_rests a1 (I 74)) (fun r => Q (.inl (some (.int r))) (zS p q I [] J []))) : pm_call M cost zext d 144 [.ref 0, .int a1] (pm_st 108 (shp p q) I J) Q := by
  obtain ⟨d, rfl⟩ := zd1 hd rfl
  have hc := pm_call_m (M := M) (cost := cost) zext_m d
  refine z_in (L := []) (K := []) (ls := [some (.ref 0), some (.int a1), none]) zmt_144 zco_144 rfl rfl zid_n zid_n ?_
  delta f_X11_rests at h
  refine g_aload_n (pc' := 1)  hc rfl rfl rfl rfl ?_
  refine z_getR (pc' := 4)  hc rfl rfl rfl sh_0 rfl rfl ?_
  refine g_iconst (pc' := 5) (v := (2 : Int32)) hc rfl zki_2 rfl ?_
  refine g_iload_n (pc' := 6)  hc rfl rfl rfl ?_
  refine g_imul (pc' := 7)  hc rfl rfl ?_
  have hb := (zwp_bnd h).1
  replace h := (zwp_bnd h).2
  refine z_iaload (pc' := 8) (v := (((I 74)) ((2 : Int32) * a1).toNatClampNeg)) hc rfl rfl sh_74 hb rfl rfl ?_
  refine g_aload_n (pc' := 9)  hc rfl rfl rfl rfl ?_
  refine z_getR (pc' := 12)  hc rfl rfl rfl sh_0 rfl rfl ?_
  refine g_iconst (pc' := 13) (v := (2 : Int32)) hc rfl zki_2 rfl ?_
  refine g_iload_n (pc' := 14)  hc rfl rfl rfl ?_
  refine g_iconst (pc' := 15) (v := (2 : Int32)) hc rfl zki_2 rfl ?_
  refine g_ixor (pc' := 16)  hc rfl rfl ?_
  refine g_imul (pc' := 17)  hc rfl rfl ?_
  have hb := (zwp_bnd h).1
  replace h := (zwp_bnd h).2
  refine z_iaload (pc' := 18) (v := (((I 74)) ((2 : Int32) * (a1 ^^^ (2 : Int32))).toNatClampNeg)) hc rfl rfl sh_74 hb rfl rfl ?_
  refine zjn (G := (fun (j1 : Int32) => pm_ev C_X11_rests (d + 1) (pm_call M cost zext d) cost (false, false) 108 0 0 Q 26 [some (.ref 0), some (.int a1), none] [.int j1] 0 0 (zS p q I [] J []))) (zwp_bind h) ?_ (fun h => ?_)
  · rintro j1 h
    refine g_istore_n (pc' := 27) (ls1 := [some (.ref 0), some (.int a1), some (.int j1)]) hc rfl (zlt rfl) rfl rfl ?_
    refine g_iload_n (pc' := 28)  hc rfl rfl rfl ?_
    refine g_if_eq (pc' := 31) hc rfl rfl (fun hx => ?_) (fun hx => ?_)
    · replace h := zwp_t h hx
      refine g_iconst (pc' := 61) (v := (0 : Int32)) hc rfl zki_0 rfl ?_
      replace h := zws h
      exact g_ireturn hc rfl rfl rfl (fun _ => ⟨rfl, rfl⟩) h
    · replace h := zwp_f h hx
      refine g_aload_n (pc' := 32)  hc rfl rfl rfl rfl ?_
      refine z_getR (pc' := 35)  hc rfl rfl rfl sh_0 rfl rfl ?_
      refine g_iconst (pc' := 36) (v := (2 : Int32)) hc rfl zki_2 rfl ?_
      refine g_iload_n (pc' := 37)  hc rfl rfl rfl ?_
      refine g_imul (pc' := 38)  hc rfl rfl ?_
      refine g_iconst (pc' := 39) (v := (1 : Int32)) hc rfl zki_1 rfl ?_
      refine g_iadd (pc' := 40)  hc rfl rfl ?_
      have hb := (zwp_bnd h).1
      replace h := (zwp_bnd h).2
      refine z_iaload (pc' := 41) (v := (((I 74)) (((2 : Int32) * a1) + (1 : Int32)).toNatClampNeg)) hc rfl rfl sh_74 hb rfl rfl ?_
      refine g_aload_n (pc' := 42)  hc rfl rfl rfl rfl ?_
      refine z_getR (pc' := 45)  hc rfl rfl rfl sh_0 rfl rfl ?_
      refine g_iconst (pc' := 46) (v := (2 : Int32)) hc rfl zki_2 rfl ?_
      refine g_iload_n (pc' := 47)  hc rfl rfl rfl ?_
      refine g_iconst (pc' := 48) (v := (1 : Int32)) hc rfl zki_1 rfl ?_
      refine g_ixor (pc' := 49)  hc rfl rfl ?_
      refine g_imul (pc' := 50)  hc rfl rfl ?_
      refine g_iconst (pc' := 51) (v := (1 : Int32)) hc rfl zki_1 rfl ?_
      refine g_iadd (pc' := 52)  hc rfl rfl ?_
      have hb := (zwp_bnd h).1
      replace h := (zwp_bnd h).2
      refine z_iaload (pc' := 53) (v := (((I 74)) (((2 : Int32) * (a1 ^^^ (1 : Int32))) + (1 : Int32)).toNatClampNeg)) hc rfl rfl sh_74 hb rfl rfl ?_
      refine g_icmp_lt (pc' := 56) hc rfl rfl (fun hx => ?_) (fun hx => ?_)
      · replace h := zwp_t h hx
        refine g_iconst (pc' := 61) (v := (0 : Int32)) hc rfl zki_0 rfl ?_
        replace h := zws h
        exact g_ireturn hc rfl rfl rfl (fun _ => ⟨rfl, rfl⟩) h
      · replace h := zwp_f h hx
        refine g_iconst (pc' := 57) (v := (1 : Int32)) hc rfl zki_1 rfl ?_
        refine g_goto hc rfl ?_
        replace h := zws h
        exact g_ireturn hc rfl rfl rfl (fun _ => ⟨rfl, rfl⟩) h
  refine g_icmp_lt (pc' := 21) hc rfl rfl (fun hx => ?_) (fun hx => ?_)
  · replace h := zwp_t h hx
    refine g_iconst (pc' := 26) (v := (0 : Int32)) hc rfl zki_0 rfl ?_
    replace h := zws h
    exact h
  · replace h := zwp_f h hx
    refine g_iconst (pc' := 22) (v := (1 : Int32)) hc rfl zki_1 rfl ?_
    refine g_goto hc rfl ?_
    replace h := zws h
    exact h
set_option maxRecDepth 4000 in
theorem ok_X11_game_0_p {I : pI} {J : pJ} {a1 : Int32} {a2 : Int32} {a3 : Int32} {Q : pQ} {d : Nat} (hd : 8 ≤ d) (h : zwp (f_X11_game a1 a2 a3 (I 54) (I 53 3) (I 56) (I 53 0) (I 57) (I 53 1) (I 55) (J 53 2) (I 74) (I 52) (I 32) (I 31 3) (I 34) (I 31 0) (I 35) (I 31 1) (I 33) (J 31 2) (I 7 12) (I 7 3) (I 15) (I 13 2) (I 14) (I 7 1) (I 18) (I 16 2) (I 17) (I 12) (I 7 9) (I 9) (I 10) (I 7 0)) (fun w => match w with | (.inl r, o0, o1, o2, o3, o4, o5, o6, o7, o8, o9, o10, o11) => Q (.inl (some (.int r))) (zS 7 19 I [(14, none, o10), (17, none, o11), (52, none, o9), (53, some 0, fun _ => o3), (53, some 1, fun _ => o5), (53, some 3, fun _ => o1), (54, none, o0), (55, none, o6), (56, none, o2), (57, none, o4), (74, none, o8)] J [(53, some 2, fun _ => o7)]) | (.inr E, o0, o1, o2, o3, o4, o5, o6, o7, o8, o9, o10, o11) => Q (.inr E) (zS 7 19 I [(14, none, o10), (17, none, o11), (52, none, o9), (53, some 0, fun _ => o3), (53, some 1, fun _ => o5), (53, some 3, fun _ => o1), (54, none, o0), (55, none, o6), (56, none, o2), (57, none, o4), (74, none, o8)] J [(53, some 2, fun _ => o7)]))) : pm_call M cost zext d 125 [.ref 0, .int a1, .int a2, .int a3] (pm_st 108 (shp 7 19) I J) Q := by
  obtain ⟨d, rfl⟩ := zd1 hd rfl
  have hc := pm_call_m (M := M) (cost := cost) zext_m d
  refine z_in (L := [(14, none, (I 14)), (17, none, (I 17)), (52, none, (I 52)), (53, some 0, fun _ => (I 53 0)), (53, some 1, fun _ => (I 53 1)), (53, some 3, fun _ => (I 53 3)), (54, none, (I 54)), (55, none, (I 55)), (56, none, (I 56)), (57, none, (I 57)), (74, none, (I 74))]) (K := [(53, some 2, fun _ => (J 53 2))]) (ls := [some (.ref 0), some (.int a1), some (.int a2), some (.int a3), none, none, none]) zmt_125 zco_125 rfl rfl (zid_a (zid_a (zid_a (zid_s (zid_s (zid_s (zid_a (zid_a (zid_a (zid_a (zid_a zid_n))))))))))) (zid_s zid_n) ?_
  delta f_X11_game at h
  refine g_aload_n (pc' := 1)  hc rfl rfl rfl rfl ?_
  refine g_iload_n (pc' := 2)  hc rfl rfl rfl ?_
  refine z_virt (as := [.int a1]) (a := 0) (r := []) hc rfl rfl rfl rfl sh_0 rfl zco_133 rfl rfl rfl ?_
  refine ok_X11_checkFigure_0_p (zdp hd rfl) (zwp_mono (zwp_bind h) ?_)
  rintro (⟨⟩ | E1) h
  · refine z_po (pc' := 5) (st' := []) (v := none) (L' := [(14, none, (I 14)), (17, none, (I 17)), (52, none, (I 52)), (53, some 0, fun _ => (I 53 0)), (53, some 1, fun _ => (I 53 1)), (53, some 3, fun _ => (I 53 3)), (54, none, (I 54)), (55, none, (I 55)), (56, none, (I 56)), (57, none, (I 57)), (74, none, (I 74))]) (K' := [(53, some 2, fun _ => (J 53 2))]) zco_133 rfl rfl rfl rfl rfl rfl rfl rfl ?_
    refine g_aload_n (pc' := 6)  hc rfl rfl rfl rfl ?_
    refine g_iload_n (pc' := 7)  hc rfl rfl rfl ?_
    refine z_virt (as := [.int a2]) (a := 0) (r := []) hc rfl rfl rfl rfl sh_0 rfl zco_133 rfl rfl rfl ?_
    refine ok_X11_checkFigure_0_p (zdp hd rfl) (zwp_mono (zwp_bind h) ?_)
    rintro (⟨⟩ | E2) h
    · refine z_po (pc' := 10) (st' := []) (v := none) (L' := [(14, none, (I 14)), (17, none, (I 17)), (52, none, (I 52)), (53, some 0, fun _ => (I 53 0)), (53, some 1, fun _ => (I 53 1)), (53, some 3, fun _ => (I 53 3)), (54, none, (I 54)), (55, none, (I 55)), (56, none, (I 56)), (57, none, (I 57)), (74, none, (I 74))]) (K' := [(53, some 2, fun _ => (J 53 2))]) zco_133 rfl rfl rfl rfl rfl rfl rfl rfl ?_
      refine g_iload_n (pc' := 11)  hc rfl rfl rfl ?_
      refine g_iconst (pc' := 12) (v := (1 : Int32)) hc rfl zki_1 rfl ?_
      refine z_stat (as := [.int a3, .int (1 : Int32)]) (r := []) hc rfl rfl rfl rfl zco_135 rfl rfl rfl ?_
      refine ok_X11_checkWhat (zdp hd rfl) (zwp_mono (zwp_bind h) ?_)
      rintro (⟨⟩ | E3) h
      · refine z_po (pc' := 15) (st' := []) (v := none) (L' := [(14, none, (I 14)), (17, none, (I 17)), (52, none, (I 52)), (53, some 0, fun _ => (I 53 0)), (53, some 1, fun _ => (I 53 1)), (53, some 3, fun _ => (I 53 3)), (54, none, (I 54)), (55, none, (I 55)), (56, none, (I 56)), (57, none, (I 57)), (74, none, (I 74))]) (K' := [(53, some 2, fun _ => (J 53 2))]) zco_135 rfl rfl rfl rfl rfl rfl rfl rfl ?_
        refine g_iload_n (pc' := 16)  hc rfl rfl rfl ?_
        refine g_iload_n (pc' := 17)  hc rfl rfl rfl ?_
        refine g_icmp_ne (pc' := 20) hc rfl rfl (fun hx => ?_) (fun hx => ?_)
        · replace h := zwp_f h hx
          refine g_iconst (pc' := 32) (v := (0 : Int32)) hc rfl zki_0 rfl ?_
          refine g_istore (pc' := 34) (ls1 := [some (.ref 0), some (.int a1), some (.int a2), some (.int a3), some (.int (0 : Int32)), none, none]) hc rfl (zlt rfl) rfl rfl ?_
          refine zjn (G := (fun (g : (Nat → Int32) × Int32 × (Nat → Int32) × Int32 × (Nat → Int32) × Int32 × (Nat → Int32) × Int64 × (Nat → Int32) × (Nat → Int32) × (Nat → Int32) × (Nat → Int32)) => match g with | (y18, y19, y20, y21, y22, y23, y24, y25, y26, y27, y28, y29) => ∀ z17 : Option Value, znl z17 = true → pm_ev C_X11_game (d + 1) (pm_call M cost zext d) cost (false, false) 108 1 6 Q 54 [some (.ref 0), some (.int a1), some (.int a2), some (.int a3), z17, none, none] [] 0 0 (zS 7 19 I [(14, none, y28), (17, none, y29), (52, none, y27), (53, some 0, fun _ => y21), (53, some 1, fun _ => y23), (53, some 3, fun _ => y19), (54, none, y18), (55, none, y24), (56, none, y20), (57, none, y22), (74, none, y26)] J [(53, some 2, fun _ => y25)]))) (zwp_bind h) ?_ (fun h => ?_)
          · rintro ⟨y18, y19, y20, y21, y22, y23, y24, y25, y26, y27, y28, y29⟩ h z17 hz17
            refine g_iconst (pc' := 55) (v := (0 : Int32)) hc rfl zki_0 rfl ?_
            refine g_istore (pc' := 57) (ls1 := [some (.ref 0), some (.int a1), some (.int a2), some (.int a3), some (.int (0 : Int32)), none, none]) hc rfl (zlt rfl) rfl rfl ?_
            refine g_iconst (pc' := 58) (v := (-1 : Int32)) hc rfl zki_m1 rfl ?_
            refine g_istore (pc' := 60) (ls1 := [some (.ref 0), some (.int a1), some (.int a2), some (.int a3), some (.int (0 : Int32)), some (.int (-1 : Int32)), none]) hc rfl (zlt rfl) rfl rfl ?_
            refine g_iconst (pc' := 61) (v := (3 : Int32)) hc rfl zki_3 rfl ?_
            refine g_istore (pc' := 63) (ls1 := [some (.ref 0), some (.int a1), some (.int a2), some (.int a3), some (.int (0 : Int32)), some (.int (-1 : Int32)), some (.int (3 : Int32))]) hc rfl (zlt rfl) rfl rfl ?_
            refine zjn (G := (fun (g : Int32 × Int32) => match g with | (y33, y34) => ∀ z35 : Option Value, znl z35 = true → pm_ev C_X11_game (d + 1) (pm_call M cost zext d) cost (false, false) 108 1 6 Q 100 [some (.ref 0), some (.int a1), some (.int a2), some (.int a3), some (.int y33), some (.int y34), z35] [] 0 0 (zS 7 19 I [(14, none, y28), (17, none, y29), (52, none, y27), (53, some 0, fun _ => y21), (53, some 1, fun _ => y23), (53, some 3, fun _ => y19), (54, none, y18), (55, none, y24), (56, none, y20), (57, none, y22), (74, none, y26)] J [(53, some 2, fun _ => y25)]))) (zwp_bind h) ?_ (fun h => ?_)
            · rintro ⟨y33, y34⟩ h z35 hz35
              refine g_iload_n (pc' := 101)  hc rfl rfl rfl ?_
              refine g_if_ne (pc' := 104) hc rfl rfl (fun hx => ?_) (fun hx => ?_)
              · replace h := zwp_f h hx
                refine g_iload (pc' := 111)  hc rfl rfl rfl ?_
                replace h := zws h
                exact g_ireturn hc rfl rfl rfl (fun _ => ⟨rfl, rfl⟩) h
              · replace h := zwp_t h hx
                refine g_iload (pc' := 106)  hc rfl rfl rfl ?_
                refine g_goto hc rfl ?_
                replace h := zws h
                exact g_ireturn hc rfl rfl rfl (fun _ => ⟨rfl, rfl⟩) h
            refine zitr_ev (G := (fun (g : Int32 × Int32 × Int32) => match g with | (x30, x31, x32) => pm_ev C_X11_game (d + 1) (pm_call M cost zext d) cost (false, false) 108 1 6 Q 63 [some (.ref 0), some (.int a1), some (.int a2), some (.int a3), some (.int x30), some (.int x31), some (.int x32)] [] 0 0 (zS 7 19 I [(14, none, y28), (17, none, y29), (52, none, y27), (53, some 0, fun _ => y21), (53, some 1, fun _ => y23), (53, some 3, fun _ => y19), (54, none, y18), (55, none, y24), (56, none, y20), (57, none, y22), (74, none, y26)] J [(53, some 2, fun _ => y25)]))) ?_ zFU ((0 : Int32), (-1 : Int32), (3 : Int32)) h
            rintro ⟨x30, x31, x32⟩ h
            refine g_iload (pc' := 65)  hc rfl rfl rfl ?_
            refine g_if_lt (pc' := 68) hc rfl rfl (fun hx => ?_) (fun hx => ?_)
            · replace h := zwp_t h hx
              replace h := zwp_r h
              exact h (some (.int x32)) rfl
            · replace h := zwp_f h hx
              refine g_aload_n (pc' := 69)  hc rfl rfl rfl rfl ?_
              refine g_iload (pc' := 71)  hc rfl rfl rfl ?_
              refine z_virt (as := [.int x32]) (a := 0) (r := []) hc rfl rfl rfl rfl sh_0 rfl zco_144 rfl rfl rfl ?_
              refine ok_X11_rests_0 (zdp hd rfl) (zwp_mono (zwp_bind h) ?_)
              rintro r36 h
              refine z_po (pc' := 74) (st' := [.int r36]) (v := (some (.int r36))) (L' := [(14, none, y28), (17, none, y29), (52, none, y27), (53, some 0, fun _ => y21), (53, some 1, fun _ => y23), (53, some 3, fun _ => y19), (54, none, y18), (55, none, y24), (56, none, y20), (57, none, y22), (74, none, y26)]) (K' := [(53, some 2, fun _ => y25)]) zco_144 rfl rfl rfl rfl rfl rfl rfl rfl ?_
              refine g_if_eq (pc' := 77) hc rfl rfl (fun hx => ?_) (fun hx => ?_)
              · replace h := zwp_t h hx
                refine g_iinc (pc' := 97) (ls1 := [some (.ref 0), some (.int a1), some (.int a2), some (.int a3), some (.int x30), some (.int x31), some (.int (x32 + (-1 : Int32)))]) hc rfl rfl zki_m1 (zlt rfl) rfl rfl ?_
                refine g_goto hc rfl ?_
                replace h := zwp_l h
                exact h
              · replace h := zwp_f h hx
                refine g_iinc (pc' := 80) (ls1 := [some (.ref 0), some (.int a1), some (.int a2), some (.int a3), some (.int (x30 + (1 : Int32))), some (.int x31), some (.int x32)]) hc rfl rfl zki_1 (zlt rfl) rfl rfl ?_
                refine g_bipush (pc' := 82) (v := (10 : Int32)) hc rfl zkb_10 rfl ?_
                refine g_iload (pc' := 84)  hc rfl rfl rfl ?_
                refine g_iconst (pc' := 85) (v := (1 : Int32)) hc rfl zki_1 rfl ?_
                refine g_ishr (pc' := 86)  hc rfl rfl ?_
                refine g_imul (pc' := 87)  hc rfl rfl ?_
                refine g_iload (pc' := 89)  hc rfl rfl rfl ?_
                refine g_iconst (pc' := 90) (v := (1 : Int32)) hc rfl zki_1 rfl ?_
                refine g_iand (pc' := 91)  hc rfl rfl ?_
                refine g_iadd (pc' := 92)  hc rfl rfl ?_
                refine g_istore (pc' := 94) (ls1 := [some (.ref 0), some (.int a1), some (.int a2), some (.int a3), some (.int (x30 + (1 : Int32))), some (.int (((10 : Int32) * (x32 >>> ((1 : Int32) &&& 31))) + (x32 &&& (1 : Int32)))), some (.int x32)]) hc rfl (zlt rfl) rfl rfl ?_
                refine g_iinc (pc' := 97) (ls1 := [some (.ref 0), some (.int a1), some (.int a2), some (.int a3), some (.int (x30 + (1 : Int32))), some (.int (((10 : Int32) * (x32 >>> ((1 : Int32) &&& 31))) + (x32 &&& (1 : Int32)))), some (.int (x32 + (-1 : Int32)))]) hc rfl rfl zki_m1 (zlt rfl) rfl rfl ?_
                refine g_goto hc rfl ?_
                replace h := zwp_l h
                exact h
          refine zitr_ev (G := (fun (g : Int32 × (Nat → Int32) × Int32 × (Nat → Int32) × Int32 × (Nat → Int32) × Int32 × (Nat → Int32) × Int64 × (Nat → Int32) × (Nat → Int32) × (Nat → Int32) × (Nat → Int32)) => match g with | (x4, x5, x6, x7, x8, x9, x10, x11, x12, x13, x14, x15, x16) => pm_ev C_X11_game (d + 1) (pm_call M cost zext d) cost (false, false) 108 1 6 Q 34 [some (.ref 0), some (.int a1), some (.int a2), some (.int a3), some (.int x4), none, none] [] 0 0 (zS 7 19 I [(14, none, x15), (17, none, x16), (52, none, x14), (53, some 0, fun _ => x8), (53, some 1, fun _ => x10), (53, some 3, fun _ => x6), (54, none, x5), (55, none, x11), (56, none, x7), (57, none, x9), (74, none, x13)] J [(53, some 2, fun _ => x12)]))) ?_ zFU ((0 : Int32), (I 54), (I 53 3), (I 56), (I 53 0), (I 57), (I 53 1), (I 55), (J 53 2), (I 74), (I 52), (I 14), (I 17)) h
          rintro ⟨x4, x5, x6, x7, x8, x9, x10, x11, x12, x13, x14, x15, x16⟩ h
          refine g_iload (pc' := 36)  hc rfl rfl rfl ?_
          refine g_iconst (pc' := 37) (v := (4 : Int32)) hc rfl zki_4 rfl ?_
          refine g_icmp_ge (pc' := 40) hc rfl rfl (fun hx => ?_) (fun hx => ?_)
          · replace h := zwp_t h hx
            replace h := zwp_r h
            exact h (some (.int x4)) rfl
          · replace h := zwp_f h hx
            refine g_aload_n (pc' := 41)  hc rfl rfl rfl rfl ?_
            refine g_iload_n (pc' := 42)  hc rfl rfl rfl ?_
            refine g_iload_n (pc' := 43)  hc rfl rfl rfl ?_
            refine g_iload (pc' := 45)  hc rfl rfl rfl ?_
            refine z_virt (as := [.int a1, .int a2, .int x4]) (a := 0) (r := []) hc rfl rfl rfl rfl sh_0 rfl zco_143 rfl rfl rfl ?_
            refine ok_X11_play_0_p (zdp hd rfl) (zwp_mono (zwp_bind h) ?_)
            rintro ⟨o37, o38, o39, o40, o41, o42, o43, o44, o45, o46, o47, o48⟩ h
            refine z_po (pc' := 48) (st' := []) (v := none) (L' := [(14, none, o47), (17, none, o48), (52, none, o46), (53, some 0, fun _ => o40), (53, some 1, fun _ => o42), (53, some 3, fun _ => o38), (54, none, o37), (55, none, o43), (56, none, o39), (57, none, o41), (74, none, o45)]) (K' := [(53, some 2, fun _ => o44)]) zco_143 rfl rfl rfl rfl rfl rfl rfl rfl ?_
            refine g_iinc (pc' := 51) (ls1 := [some (.ref 0), some (.int a1), some (.int a2), some (.int a3), some (.int (x4 + (1 : Int32))), none, none]) hc rfl rfl zki_1 (zlt rfl) rfl rfl ?_
            refine g_goto hc rfl ?_
            replace h := zwp_l h
            exact h
        · replace h := zwp_t h hx
          replace h := zws h
          exact z_throw hc rfl rfl (zdq hd rfl) rfl rfl rfl h
      · replace h := zws h
        exact z_pox (L' := [(14, none, (I 14)), (17, none, (I 17)), (52, none, (I 52)), (53, some 0, fun _ => (I 53 0)), (53, some 1, fun _ => (I 53 1)), (53, some 3, fun _ => (I 53 3)), (54, none, (I 54)), (55, none, (I 55)), (56, none, (I 56)), (57, none, (I 57)), (74, none, (I 74))]) (K' := [(53, some 2, fun _ => (J 53 2))]) rfl rfl rfl rfl rfl rfl rfl h
    · replace h := zws h
      exact z_pox (L' := [(14, none, (I 14)), (17, none, (I 17)), (52, none, (I 52)), (53, some 0, fun _ => (I 53 0)), (53, some 1, fun _ => (I 53 1)), (53, some 3, fun _ => (I 53 3)), (54, none, (I 54)), (55, none, (I 55)), (56, none, (I 56)), (57, none, (I 57)), (74, none, (I 74))]) (K' := [(53, some 2, fun _ => (J 53 2))]) rfl rfl rfl rfl rfl rfl rfl h
  · replace h := zws h
    exact z_pox (L' := [(14, none, (I 14)), (17, none, (I 17)), (52, none, (I 52)), (53, some 0, fun _ => (I 53 0)), (53, some 1, fun _ => (I 53 1)), (53, some 3, fun _ => (I 53 3)), (54, none, (I 54)), (55, none, (I 55)), (56, none, (I 56)), (57, none, (I 57)), (74, none, (I 74))]) (K' := [(53, some 2, fun _ => (J 53 2))]) rfl rfl rfl rfl rfl rfl rfl h
set_option maxRecDepth 4000 in
theorem ok_L_game_0_107_p {I : pI} {J : pJ} {a1 : Int32} {a2 : Int32} {a3 : Int32} {Q : pQ} {d : Nat} (hd : 9 ≤ d) (h : zwp (f_L_game a1 a2 a3 1 (J 107) (I 54) (I 53 3) (I 56) (I 53 0) (I 57) (I 53 1) (I 55) (J 53 2) (I 74) (I 52) (I 32) (I 31 3) (I 34) (I 31 0) (I 35) (I 31 1) (I 33) (J 31 2) (I 7 12) (I 7 3) (I 15) (I 13 2) (I 14) (I 7 1) (I 18) (I 16 2) (I 17) (I 12) (I 7 9) (I 9) (I 10) (I 7 0)) (fun w => match w with | (r, o0, o1, o2, o3, o4, o5, o6, o7, o8, o9, o10, o11, o12) => Q (.inl (some (.int r))) (zS 7 19 I [(14, none, o11), (17, none, o12), (52, none, o10), (53, some 0, fun _ => o4), (53, some 1, fun _ => o6), (53, some 3, fun _ => o2), (54, none, o1), (55, none, o7), (56, none, o3), (57, none, o5), (74, none, o9)] J [(53, some 2, fun _ => o8), (107, none, o0)]))) : pm_call M cost zext d 294 [.ref 0, .int a1, .int a2, .int a3, .ref 107] (pm_st 108 (shp 7 19) I J) Q := by
  obtain ⟨d, rfl⟩ := zd1 hd rfl
  have hc := pm_call_m (M := M) (cost := cost) zext_m d
  refine z_in (L := [(14, none, (I 14)), (17, none, (I 17)), (52, none, (I 52)), (53, some 0, fun _ => (I 53 0)), (53, some 1, fun _ => (I 53 1)), (53, some 3, fun _ => (I 53 3)), (54, none, (I 54)), (55, none, (I 55)), (56, none, (I 56)), (57, none, (I 57)), (74, none, (I 74))]) (K := [(53, some 2, fun _ => (J 53 2)), (107, none, (J 107))]) (ls := [some (.ref 0), some (.int a1), some (.int a2), some (.int a3), some (.ref 107), none]) zmt_294 zco_294 rfl rfl (zid_a (zid_a (zid_a (zid_s (zid_s (zid_s (zid_a (zid_a (zid_a (zid_a (zid_a zid_n))))))))))) (zid_s (zid_a zid_n)) ?_
  delta f_L_game at h
  refine g_aload (pc' := 2)  hc rfl rfl rfl rfl ?_
  refine g_iconst (pc' := 3) (v := (0 : Int32)) hc rfl zki_0 rfl ?_
  refine g_aload_n (pc' := 4)  hc rfl rfl rfl rfl ?_
  refine g_iload_n (pc' := 5)  hc rfl rfl rfl ?_
  refine g_iload_n (pc' := 6)  hc rfl rfl rfl ?_
  refine g_iload_n (pc' := 7)  hc rfl rfl rfl ?_
  refine z_virt (as := [.int a1, .int a2, .int a3]) (a := 0) (r := [.int (0 : Int32), .ref 107]) hc rfl rfl rfl rfl sh_0 rfl zco_125 rfl rfl rfl ?_
  refine ok_X11_game_0_p (zdp hd rfl) (zwp_mono (zwp_bind h) ?_)
  rintro ⟨(r13 | E14), o1, o2, o3, o4, o5, o6, o7, o8, o9, o10, o11, o12⟩ h
  · refine z_po (pc' := 10) (st' := [.int r13, .int (0 : Int32), .ref 107]) (v := (some (.int r13))) (L' := [(14, none, o11), (17, none, o12), (52, none, o10), (53, some 0, fun _ => o4), (53, some 1, fun _ => o6), (53, some 3, fun _ => o2), (54, none, o1), (55, none, o7), (56, none, o3), (57, none, o5), (74, none, o9)]) (K' := [(53, some 2, fun _ => o8), (107, none, (J 107))]) zco_125 rfl rfl rfl rfl rfl rfl rfl rfl ?_
    refine g_i2l (pc' := 11)  hc rfl rfl ?_
    have hb := (zwp_bnd h).1
    replace h := (zwp_bnd h).2
    refine z_lastore (pc' := 12) (g := (J 107)) (K' := [(53, some 2, fun _ => o8), (107, none, (vp_updL ((J 107)) (0 : Int32).toNatClampNeg r13.toInt64))]) hc rfl rfl sh_107 hb rfl rfl rfl rfl ?_
    refine g_goto hc rfl ?_
    refine g_iconst (pc' := 24) (v := (0 : Int32)) hc rfl zki_0 rfl ?_
    replace h := zws h
    exact g_ireturn hc rfl rfl rfl (fun _ => ⟨rfl, rfl⟩) h
  · by_cases hE : E14 = x_N
    · replace h := zwp_t h hE
      replace h := zws h
      exact z_poh (L' := [(14, none, o11), (17, none, o12), (52, none, o10), (53, some 0, fun _ => o4), (53, some 1, fun _ => o6), (53, some 3, fun _ => o2), (54, none, o1), (55, none, o7), (56, none, o3), (57, none, o5), (74, none, o9)]) (K' := [(53, some 2, fun _ => o8), (107, none, (J 107))]) (zhd2a (e := 12) (pc := 7) rfl hE) rfl rfl rfl rfl rfl rfl rfl rfl h
    replace h := zwp_f h hE
    have hN := hE
    by_cases hE : E14 = x_I
    · replace h := zwp_t h hE
      replace h := zws h
      exact z_poh (L' := [(14, none, o11), (17, none, o12), (52, none, o10), (53, some 0, fun _ => o4), (53, some 1, fun _ => o6), (53, some 3, fun _ => o2), (54, none, o1), (55, none, o7), (56, none, o3), (57, none, o5), (74, none, o9)]) (K' := [(53, some 2, fun _ => o8), (107, none, (J 107))]) (zhd2b (e := 12) (pc := 7) rfl hN hE) rfl rfl rfl rfl rfl rfl rfl rfl h
    replace h := zwp_f h hE
    exact (zwn h).elim
set_option maxRecDepth 4000 in
theorem ok_X11_draw_0 {p q : Nat} {I : pI} {J : pJ} {a1 : Int32} {Q : pQ} {d : Nat} (hd : 1 ≤ d) (h : zwp (f_X11_draw a1 (I 0 19)) (fun w => match w with | (r, o0) => Q (.inl (some (.int r))) (zS p q I [(0, some 19, fun _ => o0)] J []))) : pm_call M cost zext d 145 [.ref 0, .int a1] (pm_st 108 (shp p q) I J) Q := by
  obtain ⟨d, rfl⟩ := zd1 hd rfl
  have hc := pm_call_m (M := M) (cost := cost) zext_m d
  refine z_in (L := [(0, some 19, fun _ => (I 0 19))]) (K := []) (ls := [some (.ref 0), some (.int a1)]) zmt_145 zco_145 rfl rfl (zid_s zid_n) zid_n ?_
  delta f_X11_draw at h
  refine g_aload_n (pc' := 1)  hc rfl rfl rfl rfl ?_
  refine g_aload_n (pc' := 2)  hc rfl rfl rfl rfl ?_
  refine z_getI (pc' := 5) (v := (I 0 19)) hc rfl rfl rfl sh_0 rfl rfl rfl ?_
  refine g_ldc_w_i (pc' := 8) (v := (1103515245 : Int32)) hc rfl rfl rfl ?_
  refine g_imul (pc' := 9)  hc rfl rfl ?_
  refine g_sipush (pc' := 12) (v := (12345 : Int32)) hc rfl zks_12345 rfl ?_
  refine g_iadd (pc' := 13)  hc rfl rfl ?_
  refine z_putI (pc' := 16) (L' := [(0, some 19, fun _ => ((((I 0 19)) * (1103515245 : Int32)) + (12345 : Int32)))]) hc rfl rfl rfl sh_0 rfl zft_11_19 rfl (fun h => Bool.noConfusion h) rfl rfl rfl ?_
  refine g_iload_n (pc' := 17)  hc rfl rfl rfl ?_
  refine g_if_le (pc' := 20) hc rfl rfl (fun hx => ?_) (fun hx => ?_)
  · replace h := zwp_t h hx
    refine g_iconst (pc' := 37) (v := (0 : Int32)) hc rfl zki_0 rfl ?_
    replace h := zws h
    exact g_ireturn hc rfl rfl rfl (fun _ => ⟨rfl, rfl⟩) h
  · replace h := zwp_f h hx
    refine g_aload_n (pc' := 21)  hc rfl rfl rfl rfl ?_
    refine z_getI (pc' := 24) (v := ((((I 0 19)) * (1103515245 : Int32)) + (12345 : Int32))) hc rfl rfl rfl sh_0 rfl rfl rfl ?_
    refine g_bipush (pc' := 26) (v := (16 : Int32)) hc rfl zkb_16 rfl ?_
    refine g_iushr (pc' := 27)  hc rfl rfl ?_
    refine g_sipush (pc' := 30) (v := (32767 : Int32)) hc rfl zks_32767 rfl ?_
    refine g_iand (pc' := 31)  hc rfl rfl ?_
    refine g_iload_n (pc' := 32)  hc rfl rfl rfl ?_
    have hz := (zwp_nz h).1
    replace h := (zwp_nz h).2
    refine g_irem (pc' := 33)  hc rfl hz rfl ?_
    refine g_goto hc rfl ?_
    replace h := zws h
    exact g_ireturn hc rfl rfl rfl (fun _ => ⟨rfl, rfl⟩) h
set_option maxRecDepth 4000 in
theorem ok_X11_drawFate_0_p {I : pI} {J : pJ} {Q : pQ} {d : Nat} (hd : 2 ≤ d) (h : zwp (f_X11_drawFate (I 54) (I 56) (I 55) (J 53 2) (I 7 3) (I 7 1) (I 7 0) (I 0 19)) (fun w => match w with | (o0, o1, o2, o3) => Q (.inl none) (zS 7 19 I [(0, some 19, fun _ => o3), (54, none, o0), (55, none, o2), (56, none, o1)] J []))) : pm_call M cost zext d 146 [.ref 0] (pm_st 108 (shp 7 19) I J) Q := by
  obtain ⟨d, rfl⟩ := zd1 hd rfl
  have hc := pm_call_m (M := M) (cost := cost) zext_m d
  refine z_in (L := [(0, some 19, fun _ => (I 0 19)), (54, none, (I 54)), (55, none, (I 55)), (56, none, (I 56))]) (K := []) (ls := [some (.ref 0), none, none, none]) zmt_146 zco_146 rfl rfl (zid_s (zid_a (zid_a (zid_a zid_n)))) zid_n ?_
  delta f_X11_drawFate at h
  refine g_aload_n (pc' := 1)  hc rfl rfl rfl rfl ?_
  refine g_bipush (pc' := 3) (v := (6 : Int32)) hc rfl zkb_6 rfl ?_
  refine z_virt (as := [.int (6 : Int32)]) (a := 0) (r := []) hc rfl rfl rfl rfl sh_0 rfl zco_145 rfl rfl rfl ?_
  refine ok_X11_draw_0 (zdp hd rfl) (zwp_mono (zwp_bind h) ?_)
  rintro ⟨r2, o1⟩ h
  refine z_po (pc' := 6) (st' := [.int r2]) (v := (some (.int r2))) (L' := [(0, some 19, fun _ => o1), (54, none, (I 54)), (55, none, (I 55)), (56, none, (I 56))]) (K' := []) zco_145 rfl rfl rfl rfl rfl rfl rfl rfl ?_
  refine g_istore_n (pc' := 7) (ls1 := [some (.ref 0), some (.int r2), none, none]) hc rfl (zlt rfl) rfl rfl ?_
  refine g_iload_n (pc' := 8)  hc rfl rfl rfl ?_
  refine g_iconst (pc' := 9) (v := (2 : Int32)) hc rfl zki_2 rfl ?_
  refine g_icmp_gt (pc' := 12) hc rfl rfl (fun hx => ?_) (fun hx => ?_)
  · replace h := zwp_t h hx
    replace h := zws h
    exact g_return hc rfl rfl (fun _ => ⟨rfl, rfl⟩) h
  · replace h := zwp_f h hx
    refine g_aload_n (pc' := 13)  hc rfl rfl rfl rfl ?_
    refine z_getR (pc' := 16)  hc rfl rfl rfl sh_0 rfl rfl ?_
    refine z_getI (pc' := 19) (v := (I 7 3)) hc rfl rfl rfl sh_7 rfl rfl rfl ?_
    refine g_if_ne (pc' := 22) hc rfl rfl (fun hx => ?_) (fun hx => ?_)
    · replace h := zwp_f h hx
      refine g_aload_n (pc' := 24)  hc rfl rfl rfl rfl ?_
      refine g_aload_n (pc' := 25)  hc rfl rfl rfl rfl ?_
      refine z_getR (pc' := 28)  hc rfl rfl rfl sh_0 rfl rfl ?_
      refine z_getI (pc' := 31) (v := (I 7 3)) hc rfl rfl rfl sh_7 rfl rfl rfl ?_
      refine z_virt (as := [.int (I 7 3)]) (a := 0) (r := []) hc rfl rfl rfl rfl sh_0 rfl zco_145 rfl rfl rfl ?_
      refine ok_X11_draw_0 (zdp hd rfl) (zwp_mono (zwp_bind h) ?_)
      rintro ⟨r4, o3⟩ h
      refine z_po (pc' := 34) (st' := [.int r4]) (v := (some (.int r4))) (L' := [(0, some 19, fun _ => o3), (54, none, (I 54)), (55, none, (I 55)), (56, none, (I 56))]) (K' := []) zco_145 rfl rfl rfl rfl rfl rfl rfl rfl ?_
      refine g_istore_n (pc' := 35) (ls1 := [some (.ref 0), some (.int r2), some (.int r4), none]) hc rfl (zlt rfl) rfl rfl ?_
      refine g_iload_n (pc' := 36)  hc rfl rfl rfl ?_
      refine g_if_ne (pc' := 39) hc rfl rfl (fun hx => ?_) (fun hx => ?_)
      · replace h := zwp_f h hx
        refine g_iload_n (pc' := 57)  hc rfl rfl rfl ?_
        refine g_iconst (pc' := 58) (v := (1 : Int32)) hc rfl zki_1 rfl ?_
        refine g_icmp_ne (pc' := 61) hc rfl rfl (fun hx => ?_) (fun hx => ?_)
        · replace h := zwp_f h hx
          refine g_aload_n (pc' := 108)  hc rfl rfl rfl rfl ?_
          refine z_getR (pc' := 111)  hc rfl rfl rfl sh_0 rfl rfl ?_
          refine z_getR (pc' := 114)  hc rfl rfl rfl sh_53 rfl rfl ?_
          refine g_iload_n (pc' := 115)  hc rfl rfl rfl ?_
          refine g_iconst (pc' := 116) (v := (0 : Int32)) hc rfl zki_0 rfl ?_
          have hb := (zwp_bnd h).1
          replace h := (zwp_bnd h).2
          refine z_iastore (pc' := 117) (g := (I 55)) (L' := [(0, some 19, fun _ => o3), (54, none, (I 54)), (55, none, (upd ((I 55)) r4.toNatClampNeg (0 : Int32))), (56, none, (I 56))]) hc rfl rfl sh_55 hb rfl rfl rfl rfl ?_
          replace h := zws h
          exact g_return hc rfl rfl (fun _ => ⟨rfl, rfl⟩) h
        · replace h := zwp_t h hx
          refine g_aload_n (pc' := 62)  hc rfl rfl rfl rfl ?_
          refine g_aload_n (pc' := 63)  hc rfl rfl rfl rfl ?_
          refine z_getR (pc' := 66)  hc rfl rfl rfl sh_0 rfl rfl ?_
          refine z_virt (as := []) (a := 7) (r := [.ref 0]) hc rfl rfl rfl rfl sh_7 rfl zco_21 rfl rfl rfl ?_
          refine ok_X3_cells_7 (zdp hd rfl) (zwp_mono (zwp_bind h) ?_)
          rintro r5 h
          refine z_po (pc' := 69) (st' := [.int r5, .ref 0]) (v := (some (.int r5))) (L' := [(0, some 19, fun _ => o3), (54, none, (I 54)), (55, none, (I 55)), (56, none, (I 56))]) (K' := []) zco_21 rfl rfl rfl rfl rfl rfl rfl rfl ?_
          refine z_virt (as := [.int r5]) (a := 0) (r := []) hc rfl rfl rfl rfl sh_0 rfl zco_145 rfl rfl rfl ?_
          refine ok_X11_draw_0 (zdp hd rfl) (zwp_mono (zwp_bind h) ?_)
          rintro ⟨r7, o6⟩ h
          refine z_po (pc' := 72) (st' := [.int r7]) (v := (some (.int r7))) (L' := [(0, some 19, fun _ => o6), (54, none, (I 54)), (55, none, (I 55)), (56, none, (I 56))]) (K' := []) zco_145 rfl rfl rfl rfl rfl rfl rfl rfl ?_
          refine g_istore_n (pc' := 73) (ls1 := [some (.ref 0), some (.int r2), some (.int r4), some (.int r7)]) hc rfl (zlt rfl) rfl rfl ?_
          refine g_aload_n (pc' := 74)  hc rfl rfl rfl rfl ?_
          refine z_getR (pc' := 77)  hc rfl rfl rfl sh_0 rfl rfl ?_
          refine g_iload_n (pc' := 78)  hc rfl rfl rfl ?_
          refine z_virt (as := [.int r7]) (a := 53) (r := []) hc rfl rfl rfl rfl sh_53 rfl zco_71 rfl rfl rfl ?_
          refine ok_X8_isWall_53 (zdp hd rfl) (zwp_mono (zwp_bind h) ?_)
          rintro r8 h
          refine z_po (pc' := 81) (st' := [.int r8]) (v := (some (.int r8))) (L' := [(0, some 19, fun _ => o6), (54, none, (I 54)), (55, none, (I 55)), (56, none, (I 56))]) (K' := []) zco_71 rfl rfl rfl rfl rfl rfl rfl rfl ?_
          refine g_if_ne (pc' := 84) hc rfl rfl (fun hx => ?_) (fun hx => ?_)
          · replace h := zwp_f h hx
            refine g_goto hc rfl ?_
            replace h := zws h
            exact g_return hc rfl rfl (fun _ => ⟨rfl, rfl⟩) h
          · replace h := zwp_t h hx
            refine g_aload_n (pc' := 85)  hc rfl rfl rfl rfl ?_
            refine z_getR (pc' := 88)  hc rfl rfl rfl sh_0 rfl rfl ?_
            refine z_getR (pc' := 91)  hc rfl rfl rfl sh_53 rfl rfl ?_
            refine g_iload_n (pc' := 92)  hc rfl rfl rfl ?_
            refine g_iload_n (pc' := 93)  hc rfl rfl rfl ?_
            have hb := (zwp_bnd h).1
            replace h := (zwp_bnd h).2
            refine z_iastore (pc' := 94) (g := (I 54)) (L' := [(0, some 19, fun _ => o6), (54, none, (upd ((I 54)) r4.toNatClampNeg r7)), (55, none, (I 55)), (56, none, (I 56))]) hc rfl rfl sh_54 hb rfl rfl rfl rfl ?_
            refine g_aload_n (pc' := 95)  hc rfl rfl rfl rfl ?_
            refine z_getR (pc' := 98)  hc rfl rfl rfl sh_0 rfl rfl ?_
            refine z_getR (pc' := 101)  hc rfl rfl rfl sh_53 rfl rfl ?_
            refine g_iload_n (pc' := 102)  hc rfl rfl rfl ?_
            refine g_iconst (pc' := 103) (v := (0 : Int32)) hc rfl zki_0 rfl ?_
            have hb := (zwp_bnd h).1
            replace h := (zwp_bnd h).2
            refine z_iastore (pc' := 104) (g := (I 56)) (L' := [(0, some 19, fun _ => o6), (54, none, (upd ((I 54)) r4.toNatClampNeg r7)), (55, none, (I 55)), (56, none, (upd ((I 56)) r4.toNatClampNeg (0 : Int32)))]) hc rfl rfl sh_56 hb rfl rfl rfl rfl ?_
            refine g_goto hc rfl ?_
            replace h := zws h
            exact g_return hc rfl rfl (fun _ => ⟨rfl, rfl⟩) h
      · replace h := zwp_t h hx
        refine g_aload_n (pc' := 40)  hc rfl rfl rfl rfl ?_
        refine z_getR (pc' := 43)  hc rfl rfl rfl sh_0 rfl rfl ?_
        refine z_getR (pc' := 46)  hc rfl rfl rfl sh_53 rfl rfl ?_
        refine g_iload_n (pc' := 47)  hc rfl rfl rfl ?_
        refine g_aload_n (pc' := 48)  hc rfl rfl rfl rfl ?_
        refine g_iconst (pc' := 49) (v := (4 : Int32)) hc rfl zki_4 rfl ?_
        refine z_virt (as := [.int (4 : Int32)]) (a := 0) (r := [.int r4, .ref 56]) hc rfl rfl rfl rfl sh_0 rfl zco_145 rfl rfl rfl ?_
        refine ok_X11_draw_0 (zdp hd rfl) (zwp_mono (zwp_bind h) ?_)
        rintro ⟨r10, o9⟩ h
        refine z_po (pc' := 52) (st' := [.int r10, .int r4, .ref 56]) (v := (some (.int r10))) (L' := [(0, some 19, fun _ => o9), (54, none, (I 54)), (55, none, (I 55)), (56, none, (I 56))]) (K' := []) zco_145 rfl rfl rfl rfl rfl rfl rfl rfl ?_
        have hb := (zwp_bnd h).1
        replace h := (zwp_bnd h).2
        refine z_iastore (pc' := 53) (g := (I 56)) (L' := [(0, some 19, fun _ => o9), (54, none, (I 54)), (55, none, (I 55)), (56, none, (upd ((I 56)) r4.toNatClampNeg r10))]) hc rfl rfl sh_56 hb rfl rfl rfl rfl ?_
        refine g_goto hc rfl ?_
        replace h := zws h
        exact g_return hc rfl rfl (fun _ => ⟨rfl, rfl⟩) h
    · replace h := zwp_t h hx
      replace h := zws h
      exact g_return hc rfl rfl (fun _ => ⟨rfl, rfl⟩) h
set_option maxRecDepth 4000 in
theorem ok_X8_places_53 {p q : Nat} {I : pI} {J : pJ} {Q : pQ} {d : Nat} (hd : 1 ≤ d) (h : zwp (f_X8_places (I 54) (I 53 3)) (fun r => Q (.inl (some (.long r))) (zS p q I [] J []))) : pm_call M cost zext d 77 [.ref 53] (pm_st 108 (shp p q) I J) Q := by
  obtain ⟨d, rfl⟩ := zd1 hd rfl
  have hc := pm_call_m (M := M) (cost := cost) zext_m d
  refine z_in (L := []) (K := []) (ls := [some (.ref 53), none, none, none]) zmt_77 zco_77 rfl rfl zid_n zid_n ?_
  delta f_X8_places at h
  refine g_lconst (pc' := 1) (v := (0 : Int64)) hc rfl zkl_0 rfl ?_
  refine g_lstore_n (pc' := 2) (ls1 := [some (.ref 53), some (.long (0 : Int64)), none, none]) hc rfl (zlt rfl) rfl rfl ?_
  refine g_iconst (pc' := 3) (v := (0 : Int32)) hc rfl zki_0 rfl ?_
  refine g_istore_n (pc' := 4) (ls1 := [some (.ref 53), some (.long (0 : Int64)), none, some (.int (0 : Int32))]) hc rfl (zlt rfl) rfl rfl ?_
  refine zjn (G := (fun (y3 : Int64) => ∀ z4 : Option Value, znl z4 = true → pm_ev C_X8_places (d + 1) (pm_call M cost zext d) cost (false, false) 108 0 0 Q 29 [some (.ref 53), some (.long y3), none, z4] [] 0 0 (zS p q I [] J []))) (zwp_bind h) ?_ (fun h => ?_)
  · rintro y3 h z4 hz4
    refine g_lload_n (pc' := 30)  hc rfl rfl rfl ?_
    replace h := zws h
    exact g_lreturn hc rfl rfl (fun _ => ⟨rfl, rfl⟩) h
  refine zitr_ev (G := (fun (g : Int64 × Int32) => match g with | (x1, x2) => pm_ev C_X8_places (d + 1) (pm_call M cost zext d) cost (false, false) 108 0 0 Q 4 [some (.ref 53), some (.long x1), none, some (.int x2)] [] 0 0 (zS p q I [] J []))) ?_ zFU ((0 : Int64), (0 : Int32)) h
  rintro ⟨x1, x2⟩ h
  refine g_iload_n (pc' := 5)  hc rfl rfl rfl ?_
  refine g_aload_n (pc' := 6)  hc rfl rfl rfl rfl ?_
  refine z_getI (pc' := 9) (v := (I 53 3)) hc rfl rfl rfl sh_53 rfl rfl rfl ?_
  refine g_icmp_ge (pc' := 12) hc rfl rfl (fun hx => ?_) (fun hx => ?_)
  · replace h := zwp_t h hx
    replace h := zwp_r h
    exact h (some (.int x2)) rfl
  · replace h := zwp_f h hx
    refine g_lload_n (pc' := 13)  hc rfl rfl rfl ?_
    refine g_lconst (pc' := 14) (v := (1 : Int64)) hc rfl zkl_1 rfl ?_
    refine g_aload_n (pc' := 15)  hc rfl rfl rfl rfl ?_
    refine z_getR (pc' := 18)  hc rfl rfl rfl sh_53 rfl rfl ?_
    refine g_iload_n (pc' := 19)  hc rfl rfl rfl ?_
    have hb := (zwp_bnd h).1
    replace h := (zwp_bnd h).2
    refine z_iaload (pc' := 20) (v := (((I 54)) x2.toNatClampNeg)) hc rfl rfl sh_54 hb rfl rfl ?_
    refine g_lshl (pc' := 21)  hc rfl rfl ?_
    refine g_lor (pc' := 22)  hc rfl rfl ?_
    refine g_lstore_n (pc' := 23) (ls1 := [some (.ref 53), some (.long (x1 ||| ((1 : Int64) <<< ((((I 54)) x2.toNatClampNeg).toInt64 &&& 63)))), none, some (.int x2)]) hc rfl (zlt rfl) rfl rfl ?_
    refine g_iinc (pc' := 26) (ls1 := [some (.ref 53), some (.long (x1 ||| ((1 : Int64) <<< ((((I 54)) x2.toNatClampNeg).toInt64 &&& 63)))), none, some (.int (x2 + (1 : Int32)))]) hc rfl rfl zki_1 (zlt rfl) rfl rfl ?_
    refine g_goto hc rfl ?_
    replace h := zwp_l h
    exact h
set_option maxRecDepth 4000 in
theorem ok_X8_soreOfAll_53 {p q : Nat} {I : pI} {J : pJ} {Q : pQ} {d : Nat} (hd : 1 ≤ d) (h : zwp (f_X8_soreOfAll (I 53 3) (I 55)) (fun r => Q (.inl (some (.int r))) (zS p q I [] J []))) : pm_call M cost zext d 78 [.ref 53] (pm_st 108 (shp p q) I J) Q := by
  obtain ⟨d, rfl⟩ := zd1 hd rfl
  have hc := pm_call_m (M := M) (cost := cost) zext_m d
  refine z_in (L := []) (K := []) (ls := [some (.ref 53), none, none]) zmt_78 zco_78 rfl rfl zid_n zid_n ?_
  delta f_X8_soreOfAll at h
  refine g_iconst (pc' := 1) (v := (0 : Int32)) hc rfl zki_0 rfl ?_
  refine g_istore_n (pc' := 2) (ls1 := [some (.ref 53), some (.int (0 : Int32)), none]) hc rfl (zlt rfl) rfl rfl ?_
  refine g_iconst (pc' := 3) (v := (0 : Int32)) hc rfl zki_0 rfl ?_
  refine g_istore_n (pc' := 4) (ls1 := [some (.ref 53), some (.int (0 : Int32)), some (.int (0 : Int32))]) hc rfl (zlt rfl) rfl rfl ?_
  refine zjn (G := (fun (y3 : Int32) => ∀ z4 : Option Value, znl z4 = true → pm_ev C_X8_soreOfAll (d + 1) (pm_call M cost zext d) cost (false, false) 108 0 0 Q 27 [some (.ref 53), some (.int y3), z4] [] 0 0 (zS p q I [] J []))) (zwp_bind h) ?_ (fun h => ?_)
  · rintro y3 h z4 hz4
    refine g_iload_n (pc' := 28)  hc rfl rfl rfl ?_
    replace h := zws h
    exact g_ireturn hc rfl rfl rfl (fun _ => ⟨rfl, rfl⟩) h
  refine zitr_ev (G := (fun (g : Int32 × Int32) => match g with | (x1, x2) => pm_ev C_X8_soreOfAll (d + 1) (pm_call M cost zext d) cost (false, false) 108 0 0 Q 4 [some (.ref 53), some (.int x1), some (.int x2)] [] 0 0 (zS p q I [] J []))) ?_ zFU ((0 : Int32), (0 : Int32)) h
  rintro ⟨x1, x2⟩ h
  refine g_iload_n (pc' := 5)  hc rfl rfl rfl ?_
  refine g_aload_n (pc' := 6)  hc rfl rfl rfl rfl ?_
  refine z_getI (pc' := 9) (v := (I 53 3)) hc rfl rfl rfl sh_53 rfl rfl rfl ?_
  refine g_icmp_ge (pc' := 12) hc rfl rfl (fun hx => ?_) (fun hx => ?_)
  · replace h := zwp_t h hx
    replace h := zwp_r h
    exact h (some (.int x2)) rfl
  · replace h := zwp_f h hx
    refine g_iload_n (pc' := 13)  hc rfl rfl rfl ?_
    refine g_aload_n (pc' := 14)  hc rfl rfl rfl rfl ?_
    refine z_getR (pc' := 17)  hc rfl rfl rfl sh_53 rfl rfl ?_
    refine g_iload_n (pc' := 18)  hc rfl rfl rfl ?_
    have hb := (zwp_bnd h).1
    replace h := (zwp_bnd h).2
    refine z_iaload (pc' := 19) (v := (((I 55)) x2.toNatClampNeg)) hc rfl rfl sh_55 hb rfl rfl ?_
    refine g_iadd (pc' := 20)  hc rfl rfl ?_
    refine g_istore_n (pc' := 21) (ls1 := [some (.ref 53), some (.int (x1 + (((I 55)) x2.toNatClampNeg))), some (.int x2)]) hc rfl (zlt rfl) rfl rfl ?_
    refine g_iinc (pc' := 24) (ls1 := [some (.ref 53), some (.int (x1 + (((I 55)) x2.toNatClampNeg))), some (.int (x2 + (1 : Int32)))]) hc rfl rfl zki_1 (zlt rfl) rfl rfl ?_
    refine g_goto hc rfl ?_
    replace h := zwp_l h
    exact h
set_option maxRecDepth 4000 in
theorem ok_X11_years_0_p {I : pI} {J : pJ} {a1 : Int32} {a2 : Int32} {a3 : Int32} {Q : pQ} {d : Nat} (hd : 8 ≤ d) (h : zwp (f_X11_years a1 a2 a3 (I 54) (I 53 3) (I 56) (I 53 0) (I 57) (I 53 1) (I 55) (J 53 2) (I 52) (I 32) (I 31 3) (I 34) (I 31 0) (I 35) (I 31 1) (I 33) (J 31 2) (I 7 12) (I 7 3) (I 15) (I 13 2) (I 14) (I 7 1) (I 18) (I 16 2) (I 17) (I 12) (I 7 9) (I 9) (I 10) (I 7 0) (I 0 19)) (fun w => match w with | (.inl r, o0, o1, o2, o3, o4, o5, o6, o7, o8, o9, o10, o11) => Q (.inl (some (.int r))) (zS 7 19 I [(0, some 19, fun _ => o11), (14, none, o9), (17, none, o10), (52, none, o8), (53, some 0, fun _ => o3), (53, some 1, fun _ => o5), (53, some 3, fun _ => o1), (54, none, o0), (55, none, o6), (56, none, o2), (57, none, o4)] J [(53, some 2, fun _ => o7)]) | (.inr E, o0, o1, o2, o3, o4, o5, o6, o7, o8, o9, o10, o11) => Q (.inr E) (zS 7 19 I [(0, some 19, fun _ => o11), (14, none, o9), (17, none, o10), (52, none, o8), (53, some 0, fun _ => o3), (53, some 1, fun _ => o5), (53, some 3, fun _ => o1), (54, none, o0), (55, none, o6), (56, none, o2), (57, none, o4)] J [(53, some 2, fun _ => o7)]))) : pm_call M cost zext d 126 [.ref 0, .int a1, .int a2, .int a3] (pm_st 108 (shp 7 19) I J) Q := by
  obtain ⟨d, rfl⟩ := zd1 hd rfl
  have hc := pm_call_m (M := M) (cost := cost) zext_m d
  refine z_in (L := [(0, some 19, fun _ => (I 0 19)), (14, none, (I 14)), (17, none, (I 17)), (52, none, (I 52)), (53, some 0, fun _ => (I 53 0)), (53, some 1, fun _ => (I 53 1)), (53, some 3, fun _ => (I 53 3)), (54, none, (I 54)), (55, none, (I 55)), (56, none, (I 56)), (57, none, (I 57))]) (K := [(53, some 2, fun _ => (J 53 2))]) (ls := [some (.ref 0), some (.int a1), some (.int a2), some (.int a3), none, none]) zmt_126 zco_126 rfl rfl (zid_s (zid_a (zid_a (zid_a (zid_s (zid_s (zid_s (zid_a (zid_a (zid_a (zid_a zid_n))))))))))) (zid_s zid_n) ?_
  delta f_X11_years at h
  refine g_iload_n (pc' := 1)  hc rfl rfl rfl ?_
  refine g_iconst (pc' := 2) (v := (2 : Int32)) hc rfl zki_2 rfl ?_
  refine z_stat (as := [.int a3, .int (2 : Int32)]) (r := []) hc rfl rfl rfl rfl zco_135 rfl rfl rfl ?_
  refine ok_X11_checkWhat (zdp hd rfl) (zwp_mono (zwp_bind h) ?_)
  rintro (⟨⟩ | E1) h
  · refine z_po (pc' := 5) (st' := []) (v := none) (L' := [(0, some 19, fun _ => (I 0 19)), (14, none, (I 14)), (17, none, (I 17)), (52, none, (I 52)), (53, some 0, fun _ => (I 53 0)), (53, some 1, fun _ => (I 53 1)), (53, some 3, fun _ => (I 53 3)), (54, none, (I 54)), (55, none, (I 55)), (56, none, (I 56)), (57, none, (I 57))]) (K' := [(53, some 2, fun _ => (J 53 2))]) zco_135 rfl rfl rfl rfl rfl rfl rfl rfl ?_
    refine g_iload_n (pc' := 6)  hc rfl rfl rfl ?_
    refine g_iconst (pc' := 7) (v := (0 : Int32)) hc rfl zki_0 rfl ?_
    refine g_bipush (pc' := 9) (v := (100 : Int32)) hc rfl zkb_100 rfl ?_
    refine z_stat (as := [.int a2, .int (0 : Int32), .int (100 : Int32)]) (r := []) hc rfl rfl rfl rfl zco_136 rfl rfl rfl ?_
    refine ok_X11_checkHours (zdp hd rfl) (zwp_mono (zwp_bind h) ?_)
    rintro (⟨⟩ | E2) h
    · refine z_po (pc' := 12) (st' := []) (v := none) (L' := [(0, some 19, fun _ => (I 0 19)), (14, none, (I 14)), (17, none, (I 17)), (52, none, (I 52)), (53, some 0, fun _ => (I 53 0)), (53, some 1, fun _ => (I 53 1)), (53, some 3, fun _ => (I 53 3)), (54, none, (I 54)), (55, none, (I 55)), (56, none, (I 56)), (57, none, (I 57))]) (K' := [(53, some 2, fun _ => (J 53 2))]) zco_136 rfl rfl rfl rfl rfl rfl rfl rfl ?_
      refine g_aload_n (pc' := 13)  hc rfl rfl rfl rfl ?_
      refine g_iload_n (pc' := 14)  hc rfl rfl rfl ?_
      refine z_putI (pc' := 17) (L' := [(0, some 19, fun _ => a1), (14, none, (I 14)), (17, none, (I 17)), (52, none, (I 52)), (53, some 0, fun _ => (I 53 0)), (53, some 1, fun _ => (I 53 1)), (53, some 3, fun _ => (I 53 3)), (54, none, (I 54)), (55, none, (I 55)), (56, none, (I 56)), (57, none, (I 57))]) hc rfl rfl rfl sh_0 rfl zft_11_19 rfl (fun h => Bool.noConfusion h) rfl rfl rfl ?_
      refine g_aload_n (pc' := 18)  hc rfl rfl rfl rfl ?_
      refine g_iconst (pc' := 19) (v := (0 : Int32)) hc rfl zki_0 rfl ?_
      refine z_virt (as := [.int (0 : Int32)]) (a := 0) (r := []) hc rfl rfl rfl rfl sh_0 rfl zco_139 rfl rfl rfl ?_
      refine ok_X11_foresee_0_p (zdp hd rfl) (zwp_mono (zwp_bind h) ?_)
      rintro ⟨o3, o4, o5, o6, o7, o8, o9, o10, o11, o12, o13⟩ h
      refine z_po (pc' := 22) (st' := []) (v := none) (L' := [(0, some 19, fun _ => a1), (14, none, o12), (17, none, o13), (52, none, o11), (53, some 0, fun _ => o6), (53, some 1, fun _ => o8), (53, some 3, fun _ => o4), (54, none, o3), (55, none, o9), (56, none, o5), (57, none, o7)]) (K' := [(53, some 2, fun _ => o10)]) zco_139 rfl rfl rfl rfl rfl rfl rfl rfl ?_
      refine g_iconst (pc' := 23) (v := (0 : Int32)) hc rfl zki_0 rfl ?_
      refine g_istore (pc' := 25) (ls1 := [some (.ref 0), some (.int a1), some (.int a2), some (.int a3), some (.int (0 : Int32)), none]) hc rfl (zlt rfl) rfl rfl ?_
      refine g_iconst (pc' := 26) (v := (0 : Int32)) hc rfl zki_0 rfl ?_
      refine g_istore (pc' := 28) (ls1 := [some (.ref 0), some (.int a1), some (.int a2), some (.int a3), some (.int (0 : Int32)), some (.int (0 : Int32))]) hc rfl (zlt rfl) rfl rfl ?_
      refine zjn (G := (fun (g : Int32 × (Nat → Int32) × (Nat → Int32) × Int32 × (Nat → Int32) × (Nat → Int32) × (Nat → Int32) × (Nat → Int32) × Int32) => match g with | (y24, y26, y27, y28, y29, y30, y31, y32, y33) => ∀ z25 : Option Value, znl z25 = true → pm_ev C_X11_years (d + 1) (pm_call M cost zext d) cost (false, false) 108 1 6 Q 71 [some (.ref 0), some (.int a1), some (.int a2), some (.int a3), some (.int y24), z25] [] 0 0 (zS 7 19 I [(0, some 19, fun _ => y33), (14, none, y31), (17, none, y32), (52, none, y30), (53, some 0, fun _ => y28), (53, some 1, fun _ => o8), (53, some 3, fun _ => o4), (54, none, y26), (55, none, y29), (56, none, y27), (57, none, o7)] J [(53, some 2, fun _ => o10)]))) (zwp_bind h) ?_ (fun h => ?_)
      · rintro ⟨y24, y26, y27, y28, y29, y30, y31, y32, y33⟩ h z25 hz25
        refine g_iload_n (pc' := 72)  hc rfl rfl rfl ?_
        refine g_if_ne (pc' := 75) hc rfl rfl (fun hx => ?_) (fun hx => ?_)
        · replace h := zwp_f h hx
          refine g_iload_n (pc' := 79)  hc rfl rfl rfl ?_
          refine g_iconst (pc' := 80) (v := (1 : Int32)) hc rfl zki_1 rfl ?_
          refine g_icmp_ne (pc' := 83) hc rfl rfl (fun hx => ?_) (fun hx => ?_)
          · replace h := zwp_f h hx
            refine g_aload_n (pc' := 94)  hc rfl rfl rfl rfl ?_
            refine z_getR (pc' := 97)  hc rfl rfl rfl sh_0 rfl rfl ?_
            refine z_virt (as := []) (a := 53) (r := []) hc rfl rfl rfl rfl sh_53 rfl zco_77 rfl rfl rfl ?_
            refine ok_X8_places_53 (zdp hd rfl) (zwp_mono (zwp_bind h) ?_)
            rintro r34 h
            refine z_po (pc' := 100) (st' := [.long r34]) (v := (some (.long r34))) (L' := [(0, some 19, fun _ => y33), (14, none, y31), (17, none, y32), (52, none, y30), (53, some 0, fun _ => y28), (53, some 1, fun _ => o8), (53, some 3, fun _ => o4), (54, none, y26), (55, none, y29), (56, none, y27), (57, none, o7)]) (K' := [(53, some 2, fun _ => o10)]) zco_77 rfl rfl rfl rfl rfl rfl rfl rfl ?_
            refine z_stat (as := [.long r34]) (r := []) hc rfl rfl rfl rfl zco_266 rfl rfl rfl ?_
            refine ok_J13_bitCount_95d88 (zdp hd rfl) (zwp_mono (zwp_bind h) ?_)
            rintro r35 h
            refine z_po (pc' := 103) (st' := [.int r35]) (v := (some (.int r35))) (L' := [(0, some 19, fun _ => y33), (14, none, y31), (17, none, y32), (52, none, y30), (53, some 0, fun _ => y28), (53, some 1, fun _ => o8), (53, some 3, fun _ => o4), (54, none, y26), (55, none, y29), (56, none, y27), (57, none, o7)]) (K' := [(53, some 2, fun _ => o10)]) zco_266 rfl rfl rfl rfl rfl rfl rfl rfl ?_
            replace h := zws h
            exact g_ireturn hc rfl rfl rfl (fun _ => ⟨rfl, rfl⟩) h
          · replace h := zwp_t h hx
            refine g_aload_n (pc' := 84)  hc rfl rfl rfl rfl ?_
            refine z_getR (pc' := 87)  hc rfl rfl rfl sh_0 rfl rfl ?_
            refine z_virt (as := []) (a := 53) (r := []) hc rfl rfl rfl rfl sh_53 rfl zco_78 rfl rfl rfl ?_
            refine ok_X8_soreOfAll_53 (zdp hd rfl) (zwp_mono (zwp_bind h) ?_)
            rintro r36 h
            refine z_po (pc' := 90) (st' := [.int r36]) (v := (some (.int r36))) (L' := [(0, some 19, fun _ => y33), (14, none, y31), (17, none, y32), (52, none, y30), (53, some 0, fun _ => y28), (53, some 1, fun _ => o8), (53, some 3, fun _ => o4), (54, none, y26), (55, none, y29), (56, none, y27), (57, none, o7)]) (K' := [(53, some 2, fun _ => o10)]) zco_78 rfl rfl rfl rfl rfl rfl rfl rfl ?_
            refine g_goto hc rfl ?_
            replace h := zws h
            exact g_ireturn hc rfl rfl rfl (fun _ => ⟨rfl, rfl⟩) h
        · replace h := zwp_t h hx
          refine g_iload (pc' := 77)  hc rfl rfl rfl ?_
          replace h := zws h
          exact g_ireturn hc rfl rfl rfl (fun _ => ⟨rfl, rfl⟩) h
      refine zitr_ev (G := (fun (g : Int32 × Int32 × (Nat → Int32) × (Nat → Int32) × Int32 × (Nat → Int32) × (Nat → Int32) × (Nat → Int32) × (Nat → Int32) × Int32) => match g with | (x14, x15, x16, x17, x18, x19, x20, x21, x22, x23) => pm_ev C_X11_years (d + 1) (pm_call M cost zext d) cost (false, false) 108 1 6 Q 28 [some (.ref 0), some (.int a1), some (.int a2), some (.int a3), some (.int x14), some (.int x15)] [] 0 0 (zS 7 19 I [(0, some 19, fun _ => x23), (14, none, x21), (17, none, x22), (52, none, x20), (53, some 0, fun _ => x18), (53, some 1, fun _ => o8), (53, some 3, fun _ => o4), (54, none, x16), (55, none, x19), (56, none, x17), (57, none, o7)] J [(53, some 2, fun _ => o10)]))) ?_ zFU ((0 : Int32), (0 : Int32), o3, o5, o6, o9, o11, o12, o13, a1) h
      rintro ⟨x14, x15, x16, x17, x18, x19, x20, x21, x22, x23⟩ h
      refine g_iload (pc' := 30)  hc rfl rfl rfl ?_
      refine g_iload_n (pc' := 31)  hc rfl rfl rfl ?_
      refine g_icmp_ge (pc' := 34) hc rfl rfl (fun hx => ?_) (fun hx => ?_)
      · replace h := zwp_t h hx
        replace h := zwp_r h
        exact h (some (.int x15)) rfl
      · replace h := zwp_f h hx
        refine g_aload_n (pc' := 35)  hc rfl rfl rfl rfl ?_
        refine z_virt (as := []) (a := 0) (r := []) hc rfl rfl rfl rfl sh_0 rfl zco_146 rfl rfl rfl ?_
        refine ok_X11_drawFate_0_p (zdp hd rfl) (zwp_mono (zwp_bind h) ?_)
        rintro ⟨o37, o38, o39, o40⟩ h
        refine z_po (pc' := 38) (st' := []) (v := none) (L' := [(0, some 19, fun _ => o40), (14, none, x21), (17, none, x22), (52, none, x20), (53, some 0, fun _ => x18), (53, some 1, fun _ => o8), (53, some 3, fun _ => o4), (54, none, o37), (55, none, o39), (56, none, o38), (57, none, o7)]) (K' := [(53, some 2, fun _ => o10)]) zco_146 rfl rfl rfl rfl rfl rfl rfl rfl ?_
        refine g_aload_n (pc' := 39)  hc rfl rfl rfl rfl ?_
        refine z_virt (as := []) (a := 0) (r := []) hc rfl rfl rfl rfl sh_0 rfl zco_140 rfl rfl rfl ?_
        refine ok_X11_passFuture_0_p (zdp hd rfl) (zwp_mono (zwp_bind h) ?_)
        rintro ⟨o41, o42, o43, o44, o45, o46, o47⟩ h
        refine z_po (pc' := 42) (st' := []) (v := none) (L' := [(0, some 19, fun _ => o40), (14, none, o46), (17, none, o47), (52, none, o45), (53, some 0, fun _ => o43), (53, some 1, fun _ => o8), (53, some 3, fun _ => o4), (54, none, o41), (55, none, o44), (56, none, o42), (57, none, o7)]) (K' := [(53, some 2, fun _ => o10)]) zco_140 rfl rfl rfl rfl rfl rfl rfl rfl ?_
        refine g_aload_n (pc' := 43)  hc rfl rfl rfl rfl ?_
        refine z_getR (pc' := 46)  hc rfl rfl rfl sh_0 rfl rfl ?_
        refine z_virt (as := []) (a := 53) (r := []) hc rfl rfl rfl rfl sh_53 rfl zco_77 rfl rfl rfl ?_
        refine ok_X8_places_53 (zdp hd rfl) (zwp_mono (zwp_bind h) ?_)
        rintro r48 h
        refine z_po (pc' := 49) (st' := [.long r48]) (v := (some (.long r48))) (L' := [(0, some 19, fun _ => o40), (14, none, o46), (17, none, o47), (52, none, o45), (53, some 0, fun _ => o43), (53, some 1, fun _ => o8), (53, some 3, fun _ => o4), (54, none, o41), (55, none, o44), (56, none, o42), (57, none, o7)]) (K' := [(53, some 2, fun _ => o10)]) zco_77 rfl rfl rfl rfl rfl rfl rfl rfl ?_
        refine z_stat (as := [.long r48]) (r := []) hc rfl rfl rfl rfl zco_266 rfl rfl rfl ?_
        refine ok_J13_bitCount_95d88 (zdp hd rfl) (zwp_mono (zwp_bind h) ?_)
        rintro r49 h
        refine z_po (pc' := 52) (st' := [.int r49]) (v := (some (.int r49))) (L' := [(0, some 19, fun _ => o40), (14, none, o46), (17, none, o47), (52, none, o45), (53, some 0, fun _ => o43), (53, some 1, fun _ => o8), (53, some 3, fun _ => o4), (54, none, o41), (55, none, o44), (56, none, o42), (57, none, o7)]) (K' := [(53, some 2, fun _ => o10)]) zco_266 rfl rfl rfl rfl rfl rfl rfl rfl ?_
        refine g_aload_n (pc' := 53)  hc rfl rfl rfl rfl ?_
        refine z_getR (pc' := 56)  hc rfl rfl rfl sh_0 rfl rfl ?_
        refine z_getI (pc' := 59) (v := (I 7 3)) hc rfl rfl rfl sh_7 rfl rfl rfl ?_
        refine g_icmp_ge (pc' := 62) hc rfl rfl (fun hx => ?_) (fun hx => ?_)
        · replace h := zwp_t h hx
          refine g_iinc (pc' := 68) (ls1 := [some (.ref 0), some (.int a1), some (.int a2), some (.int a3), some (.int x14), some (.int (x15 + (1 : Int32)))]) hc rfl rfl zki_1 (zlt rfl) rfl rfl ?_
          refine g_goto hc rfl ?_
          replace h := zwp_l h
          exact h
        · replace h := zwp_f h hx
          refine g_iinc (pc' := 65) (ls1 := [some (.ref 0), some (.int a1), some (.int a2), some (.int a3), some (.int (x14 + (1 : Int32))), some (.int x15)]) hc rfl rfl zki_1 (zlt rfl) rfl rfl ?_
          refine g_iinc (pc' := 68) (ls1 := [some (.ref 0), some (.int a1), some (.int a2), some (.int a3), some (.int (x14 + (1 : Int32))), some (.int (x15 + (1 : Int32)))]) hc rfl rfl zki_1 (zlt rfl) rfl rfl ?_
          refine g_goto hc rfl ?_
          replace h := zwp_l h
          exact h
    · replace h := zws h
      exact z_pox (L' := [(0, some 19, fun _ => (I 0 19)), (14, none, (I 14)), (17, none, (I 17)), (52, none, (I 52)), (53, some 0, fun _ => (I 53 0)), (53, some 1, fun _ => (I 53 1)), (53, some 3, fun _ => (I 53 3)), (54, none, (I 54)), (55, none, (I 55)), (56, none, (I 56)), (57, none, (I 57))]) (K' := [(53, some 2, fun _ => (J 53 2))]) rfl rfl rfl rfl rfl rfl rfl h
  · replace h := zws h
    exact z_pox (L' := [(0, some 19, fun _ => (I 0 19)), (14, none, (I 14)), (17, none, (I 17)), (52, none, (I 52)), (53, some 0, fun _ => (I 53 0)), (53, some 1, fun _ => (I 53 1)), (53, some 3, fun _ => (I 53 3)), (54, none, (I 54)), (55, none, (I 55)), (56, none, (I 56)), (57, none, (I 57))]) (K' := [(53, some 2, fun _ => (J 53 2))]) rfl rfl rfl rfl rfl rfl rfl h
set_option maxRecDepth 4000 in
theorem ok_L_years_0_107_p {I : pI} {J : pJ} {a1 : Int32} {a2 : Int32} {a3 : Int32} {Q : pQ} {d : Nat} (hd : 9 ≤ d) (h : zwp (f_L_years a1 a2 a3 1 (J 107) (I 54) (I 53 3) (I 56) (I 53 0) (I 57) (I 53 1) (I 55) (J 53 2) (I 52) (I 32) (I 31 3) (I 34) (I 31 0) (I 35) (I 31 1) (I 33) (J 31 2) (I 7 12) (I 7 3) (I 15) (I 13 2) (I 14) (I 7 1) (I 18) (I 16 2) (I 17) (I 12) (I 7 9) (I 9) (I 10) (I 7 0) (I 0 19)) (fun w => match w with | (r, o0, o1, o2, o3, o4, o5, o6, o7, o8, o9, o10, o11, o12) => Q (.inl (some (.int r))) (zS 7 19 I [(0, some 19, fun _ => o12), (14, none, o10), (17, none, o11), (52, none, o9), (53, some 0, fun _ => o4), (53, some 1, fun _ => o6), (53, some 3, fun _ => o2), (54, none, o1), (55, none, o7), (56, none, o3), (57, none, o5)] J [(53, some 2, fun _ => o8), (107, none, o0)]))) : pm_call M cost zext d 295 [.ref 0, .int a1, .int a2, .int a3, .ref 107] (pm_st 108 (shp 7 19) I J) Q := by
  obtain ⟨d, rfl⟩ := zd1 hd rfl
  have hc := pm_call_m (M := M) (cost := cost) zext_m d
  refine z_in (L := [(0, some 19, fun _ => (I 0 19)), (14, none, (I 14)), (17, none, (I 17)), (52, none, (I 52)), (53, some 0, fun _ => (I 53 0)), (53, some 1, fun _ => (I 53 1)), (53, some 3, fun _ => (I 53 3)), (54, none, (I 54)), (55, none, (I 55)), (56, none, (I 56)), (57, none, (I 57))]) (K := [(53, some 2, fun _ => (J 53 2)), (107, none, (J 107))]) (ls := [some (.ref 0), some (.int a1), some (.int a2), some (.int a3), some (.ref 107), none]) zmt_295 zco_295 rfl rfl (zid_s (zid_a (zid_a (zid_a (zid_s (zid_s (zid_s (zid_a (zid_a (zid_a (zid_a zid_n))))))))))) (zid_s (zid_a zid_n)) ?_
  delta f_L_years at h
  refine g_aload (pc' := 2)  hc rfl rfl rfl rfl ?_
  refine g_iconst (pc' := 3) (v := (0 : Int32)) hc rfl zki_0 rfl ?_
  refine g_aload_n (pc' := 4)  hc rfl rfl rfl rfl ?_
  refine g_iload_n (pc' := 5)  hc rfl rfl rfl ?_
  refine g_iload_n (pc' := 6)  hc rfl rfl rfl ?_
  refine g_iload_n (pc' := 7)  hc rfl rfl rfl ?_
  refine z_virt (as := [.int a1, .int a2, .int a3]) (a := 0) (r := [.int (0 : Int32), .ref 107]) hc rfl rfl rfl rfl sh_0 rfl zco_126 rfl rfl rfl ?_
  refine ok_X11_years_0_p (zdp hd rfl) (zwp_mono (zwp_bind h) ?_)
  rintro ⟨(r13 | E14), o1, o2, o3, o4, o5, o6, o7, o8, o9, o10, o11, o12⟩ h
  · refine z_po (pc' := 10) (st' := [.int r13, .int (0 : Int32), .ref 107]) (v := (some (.int r13))) (L' := [(0, some 19, fun _ => o12), (14, none, o10), (17, none, o11), (52, none, o9), (53, some 0, fun _ => o4), (53, some 1, fun _ => o6), (53, some 3, fun _ => o2), (54, none, o1), (55, none, o7), (56, none, o3), (57, none, o5)]) (K' := [(53, some 2, fun _ => o8), (107, none, (J 107))]) zco_126 rfl rfl rfl rfl rfl rfl rfl rfl ?_
    refine g_i2l (pc' := 11)  hc rfl rfl ?_
    have hb := (zwp_bnd h).1
    replace h := (zwp_bnd h).2
    refine z_lastore (pc' := 12) (g := (J 107)) (K' := [(53, some 2, fun _ => o8), (107, none, (vp_updL ((J 107)) (0 : Int32).toNatClampNeg r13.toInt64))]) hc rfl rfl sh_107 hb rfl rfl rfl rfl ?_
    refine g_goto hc rfl ?_
    refine g_iconst (pc' := 24) (v := (0 : Int32)) hc rfl zki_0 rfl ?_
    replace h := zws h
    exact g_ireturn hc rfl rfl rfl (fun _ => ⟨rfl, rfl⟩) h
  · by_cases hE : E14 = x_N
    · replace h := zwp_t h hE
      replace h := zws h
      exact z_poh (L' := [(0, some 19, fun _ => o12), (14, none, o10), (17, none, o11), (52, none, o9), (53, some 0, fun _ => o4), (53, some 1, fun _ => o6), (53, some 3, fun _ => o2), (54, none, o1), (55, none, o7), (56, none, o3), (57, none, o5)]) (K' := [(53, some 2, fun _ => o8), (107, none, (J 107))]) (zhd2a (e := 12) (pc := 7) rfl hE) rfl rfl rfl rfl rfl rfl rfl rfl h
    replace h := zwp_f h hE
    have hN := hE
    by_cases hE : E14 = x_I
    · replace h := zwp_t h hE
      replace h := zws h
      exact z_poh (L' := [(0, some 19, fun _ => o12), (14, none, o10), (17, none, o11), (52, none, o9), (53, some 0, fun _ => o4), (53, some 1, fun _ => o6), (53, some 3, fun _ => o2), (54, none, o1), (55, none, o7), (56, none, o3), (57, none, o5)]) (K' := [(53, some 2, fun _ => o8), (107, none, (J 107))]) (zhd2b (e := 12) (pc := 7) rfl hN hE) rfl rfl rfl rfl rfl rfl rfl rfl h
    replace h := zwp_f h hE
    exact (zwn h).elim
set_option maxRecDepth 4000 in
theorem ok_J7_fill_53178_72 {p q : Nat} {I : pI} {J : pJ} {a1 : Int32} {Q : pQ} {d : Nat} (hd : 1 ≤ d) (h : zwp (f_J7_fill_53178 a1 36 (I 72)) (fun o0 => Q (.inl none) (zS p q I [(72, none, o0)] J []))) : pm_call M cost zext d 268 [.ref 72, .int a1] (pm_st 108 (shp p q) I J) Q := by
  obtain ⟨d, rfl⟩ := zd1 hd rfl
  have hc := pm_call_m (M := M) (cost := cost) zext_m d
  refine z_in (L := [(72, none, (I 72))]) (K := []) (ls := [some (.ref 72), some (.int a1), none, none]) zmt_268 zco_268 rfl rfl (zid_a zid_n) zid_n ?_
  delta f_J7_fill_53178 at h
  refine g_iconst (pc' := 1) (v := (0 : Int32)) hc rfl zki_0 rfl ?_
  refine g_istore_n (pc' := 2) (ls1 := [some (.ref 72), some (.int a1), some (.int (0 : Int32)), none]) hc rfl (zlt rfl) rfl rfl ?_
  refine g_aload_n (pc' := 3)  hc rfl rfl rfl rfl ?_
  refine z_alen (pc' := 4) (v := (Int32.ofNat 36)) hc rfl rfl sh_72 ⟨by decide, by decide⟩ rfl rfl ?_
  refine g_istore_n (pc' := 5) (ls1 := [some (.ref 72), some (.int a1), some (.int (0 : Int32)), some (.int (Int32.ofNat 36))]) hc rfl (zlt rfl) rfl rfl ?_
  refine zjn (G := (fun (y4 : (Nat → Int32)) => ∀ z3 : Option Value, znl z3 = true → pm_ev C_J7_fill_53178 (d + 1) (pm_call M cost zext d) cost (false, false) 108 0 0 Q 20 [some (.ref 72), some (.int a1), z3, some (.int (Int32.ofNat 36))] [] 0 0 (zS p q I [(72, none, y4)] J []))) (zwp_bind h) ?_ (fun h => ?_)
  · rintro y4 h z3 hz3
    replace h := zws h
    exact g_return hc rfl rfl (fun _ => ⟨rfl, rfl⟩) h
  refine zitr_ev (G := (fun (g : Int32 × (Nat → Int32)) => match g with | (x1, x2) => pm_ev C_J7_fill_53178 (d + 1) (pm_call M cost zext d) cost (false, false) 108 0 0 Q 5 [some (.ref 72), some (.int a1), some (.int x1), some (.int (Int32.ofNat 36))] [] 0 0 (zS p q I [(72, none, x2)] J []))) ?_ zFU ((0 : Int32), (I 72)) h
  rintro ⟨x1, x2⟩ h
  refine g_iload_n (pc' := 6)  hc rfl rfl rfl ?_
  refine g_iload_n (pc' := 7)  hc rfl rfl rfl ?_
  refine g_icmp_ge (pc' := 10) hc rfl rfl (fun hx => ?_) (fun hx => ?_)
  · replace h := zwp_t h hx
    replace h := zwp_r h
    exact h (some (.int x1)) rfl
  · replace h := zwp_f h hx
    refine g_aload_n (pc' := 11)  hc rfl rfl rfl rfl ?_
    refine g_iload_n (pc' := 12)  hc rfl rfl rfl ?_
    refine g_iload_n (pc' := 13)  hc rfl rfl rfl ?_
    have hb := (zwp_bnd h).1
    replace h := (zwp_bnd h).2
    refine z_iastore (pc' := 14) (g := x2) (L' := [(72, none, (upd x2 x1.toNatClampNeg a1))]) hc rfl rfl sh_72 hb rfl rfl rfl rfl ?_
    refine g_iinc (pc' := 17) (ls1 := [some (.ref 72), some (.int a1), some (.int (x1 + (1 : Int32))), some (.int (Int32.ofNat 36))]) hc rfl rfl zki_1 (zlt rfl) rfl rfl ?_
    refine g_goto hc rfl ?_
    replace h := zwp_l h
    exact h
set_option maxRecDepth 4000 in
theorem ok_X11_busiest_0_p {I : pI} {J : pJ} {a1 : Int32} {Q : pQ} {d : Nat} (hd : 7 ≤ d) (h : zwp (f_X11_busiest a1 (I 54) (I 53 3) (I 56) (I 53 0) (I 57) (I 53 1) (I 55) (J 53 2) (I 52) (I 32) (I 31 3) (I 34) (I 31 0) (I 35) (I 31 1) (I 33) (J 31 2) (I 7 12) (I 7 3) (I 15) (I 13 2) (I 14) (I 7 1) (I 18) (I 16 2) (I 17) (I 12) (I 7 9) (I 9) (I 10) (I 7 0) (I 72)) (fun w => match w with | (r, o0, o1, o2, o3, o4, o5, o6, o7, o8, o9, o10, o11) => Q (.inl (some (.int r))) (zS 7 19 I [(14, none, o9), (17, none, o10), (52, none, o8), (53, some 0, fun _ => o3), (53, some 1, fun _ => o5), (53, some 3, fun _ => o1), (54, none, o0), (55, none, o6), (56, none, o2), (57, none, o4), (72, none, o11)] J [(53, some 2, fun _ => o7)]))) : pm_call M cost zext d 147 [.ref 0, .int a1] (pm_st 108 (shp 7 19) I J) Q := by
  obtain ⟨d, rfl⟩ := zd1 hd rfl
  have hc := pm_call_m (M := M) (cost := cost) zext_m d
  refine z_in (L := [(14, none, (I 14)), (17, none, (I 17)), (52, none, (I 52)), (53, some 0, fun _ => (I 53 0)), (53, some 1, fun _ => (I 53 1)), (53, some 3, fun _ => (I 53 3)), (54, none, (I 54)), (55, none, (I 55)), (56, none, (I 56)), (57, none, (I 57)), (72, none, (I 72))]) (K := [(53, some 2, fun _ => (J 53 2))]) (ls := [some (.ref 0), some (.int a1), none, none, none]) zmt_147 zco_147 rfl rfl (zid_a (zid_a (zid_a (zid_s (zid_s (zid_s (zid_a (zid_a (zid_a (zid_a (zid_a zid_n))))))))))) (zid_s zid_n) ?_
  delta f_X11_busiest at h
  refine g_aload_n (pc' := 1)  hc rfl rfl rfl rfl ?_
  refine z_getR (pc' := 4)  hc rfl rfl rfl sh_0 rfl rfl ?_
  refine g_iconst (pc' := 5) (v := (0 : Int32)) hc rfl zki_0 rfl ?_
  refine z_stat (as := [.ref 72, .int (0 : Int32)]) (r := []) hc rfl rfl rfl rfl zco_268 rfl rfl rfl ?_
  refine ok_J7_fill_53178_72 (zdp hd rfl) (zwp_mono (zwp_bind h) ?_)
  rintro o1 h
  refine z_po (pc' := 8) (st' := []) (v := none) (L' := [(14, none, (I 14)), (17, none, (I 17)), (52, none, (I 52)), (53, some 0, fun _ => (I 53 0)), (53, some 1, fun _ => (I 53 1)), (53, some 3, fun _ => (I 53 3)), (54, none, (I 54)), (55, none, (I 55)), (56, none, (I 56)), (57, none, (I 57)), (72, none, o1)]) (K' := [(53, some 2, fun _ => (J 53 2))]) zco_268 rfl rfl rfl rfl rfl rfl rfl rfl ?_
  refine g_aload_n (pc' := 9)  hc rfl rfl rfl rfl ?_
  refine g_iconst (pc' := 10) (v := (0 : Int32)) hc rfl zki_0 rfl ?_
  refine z_virt (as := [.int (0 : Int32)]) (a := 0) (r := []) hc rfl rfl rfl rfl sh_0 rfl zco_139 rfl rfl rfl ?_
  refine ok_X11_foresee_0_p (zdp hd rfl) (zwp_mono (zwp_bind h) ?_)
  rintro ⟨o2, o3, o4, o5, o6, o7, o8, o9, o10, o11, o12⟩ h
  refine z_po (pc' := 13) (st' := []) (v := none) (L' := [(14, none, o11), (17, none, o12), (52, none, o10), (53, some 0, fun _ => o5), (53, some 1, fun _ => o7), (53, some 3, fun _ => o3), (54, none, o2), (55, none, o8), (56, none, o4), (57, none, o6), (72, none, o1)]) (K' := [(53, some 2, fun _ => o9)]) zco_139 rfl rfl rfl rfl rfl rfl rfl rfl ?_
  refine g_iconst (pc' := 14) (v := (0 : Int32)) hc rfl zki_0 rfl ?_
  refine g_istore_n (pc' := 15) (ls1 := [some (.ref 0), some (.int a1), some (.int (0 : Int32)), none, none]) hc rfl (zlt rfl) rfl rfl ?_
  refine zjn (G := (fun (g : (Nat → Int32) × (Nat → Int32) × Int32 × (Nat → Int32) × (Nat → Int32) × (Nat → Int32) × (Nat → Int32) × (Nat → Int32)) => match g with | (y25, y26, y27, y28, y29, y30, y31, y32) => ∀ z23 : Option Value, znl z23 = true → ∀ z24 : Option Value, znl z24 = true → pm_ev C_X11_busiest (d + 1) (pm_call M cost zext d) cost (false, false) 108 0 0 Q 67 [some (.ref 0), some (.int a1), z23, z24, none] [] 0 0 (zS 7 19 I [(14, none, y30), (17, none, y31), (52, none, y29), (53, some 0, fun _ => y27), (53, some 1, fun _ => o7), (53, some 3, fun _ => o3), (54, none, y25), (55, none, y28), (56, none, y26), (57, none, o6), (72, none, y32)] J [(53, some 2, fun _ => o9)]))) (zwp_bind h) ?_ (fun h => ?_)
  · rintro ⟨y25, y26, y27, y28, y29, y30, y31, y32⟩ h z23 hz23 z24 hz24
    refine g_iconst (pc' := 68) (v := (0 : Int32)) hc rfl zki_0 rfl ?_
    refine g_istore_n (pc' := 69) (ls1 := [some (.ref 0), some (.int a1), some (.int (0 : Int32)), z24, none]) hc rfl (zlt rfl) rfl rfl ?_
    refine g_iconst (pc' := 70) (v := (-1 : Int32)) hc rfl zki_m1 rfl ?_
    refine g_istore_n (pc' := 71) (ls1 := [some (.ref 0), some (.int a1), some (.int (0 : Int32)), some (.int (-1 : Int32)), none]) hc rfl (zlt rfl) rfl rfl ?_
    refine g_iconst (pc' := 72) (v := (0 : Int32)) hc rfl zki_0 rfl ?_
    refine g_istore (pc' := 74) (ls1 := [some (.ref 0), some (.int a1), some (.int (0 : Int32)), some (.int (-1 : Int32)), some (.int (0 : Int32))]) hc rfl (zlt rfl) rfl rfl ?_
    refine zjn (G := (fun (y37 : Int32) => ∀ z36 : Option Value, znl z36 = true → ∀ z38 : Option Value, znl z38 = true → pm_ev C_X11_busiest (d + 1) (pm_call M cost zext d) cost (false, false) 108 0 0 Q 109 [some (.ref 0), some (.int a1), z36, some (.int y37), z38] [] 0 0 (zS 7 19 I [(14, none, y30), (17, none, y31), (52, none, y29), (53, some 0, fun _ => y27), (53, some 1, fun _ => o7), (53, some 3, fun _ => o3), (54, none, y25), (55, none, y28), (56, none, y26), (57, none, o6), (72, none, y32)] J [(53, some 2, fun _ => o9)]))) (zwp_bind h) ?_ (fun h => ?_)
    · rintro y37 h z36 hz36 z38 hz38
      refine g_iload_n (pc' := 110)  hc rfl rfl rfl ?_
      replace h := zws h
      exact g_ireturn hc rfl rfl rfl (fun _ => ⟨rfl, rfl⟩) h
    refine zitr_ev (G := (fun (g : Int32 × Int32 × Int32) => match g with | (x33, x34, x35) => pm_ev C_X11_busiest (d + 1) (pm_call M cost zext d) cost (false, false) 108 0 0 Q 74 [some (.ref 0), some (.int a1), some (.int x33), some (.int x34), some (.int x35)] [] 0 0 (zS 7 19 I [(14, none, y30), (17, none, y31), (52, none, y29), (53, some 0, fun _ => y27), (53, some 1, fun _ => o7), (53, some 3, fun _ => o3), (54, none, y25), (55, none, y28), (56, none, y26), (57, none, o6), (72, none, y32)] J [(53, some 2, fun _ => o9)]))) ?_ zFU ((0 : Int32), (-1 : Int32), (0 : Int32)) h
    rintro ⟨x33, x34, x35⟩ h
    refine g_iload (pc' := 76)  hc rfl rfl rfl ?_
    refine g_bipush (pc' := 78) (v := (36 : Int32)) hc rfl zkb_36 rfl ?_
    refine g_icmp_ge (pc' := 81) hc rfl rfl (fun hx => ?_) (fun hx => ?_)
    · replace h := zwp_t h hx
      replace h := zwp_r h
      exact h (some (.int x33)) rfl (some (.int x35)) rfl
    · replace h := zwp_f h hx
      refine g_aload_n (pc' := 82)  hc rfl rfl rfl rfl ?_
      refine z_getR (pc' := 85)  hc rfl rfl rfl sh_0 rfl rfl ?_
      refine g_iload (pc' := 87)  hc rfl rfl rfl ?_
      have hb := (zwp_bnd h).1
      replace h := (zwp_bnd h).2
      refine z_iaload (pc' := 88) (v := (y32 x35.toNatClampNeg)) hc rfl rfl sh_72 hb rfl rfl ?_
      refine g_iload_n (pc' := 89)  hc rfl rfl rfl ?_
      refine g_icmp_le (pc' := 92) hc rfl rfl (fun hx => ?_) (fun hx => ?_)
      · replace h := zwp_t h hx
        refine g_iinc (pc' := 106) (ls1 := [some (.ref 0), some (.int a1), some (.int x33), some (.int x34), some (.int (x35 + (1 : Int32)))]) hc rfl rfl zki_1 (zlt rfl) rfl rfl ?_
        refine g_goto hc rfl ?_
        replace h := zwp_l h
        exact h
      · replace h := zwp_f h hx
        refine g_aload_n (pc' := 93)  hc rfl rfl rfl rfl ?_
        refine z_getR (pc' := 96)  hc rfl rfl rfl sh_0 rfl rfl ?_
        refine g_iload (pc' := 98)  hc rfl rfl rfl ?_
        have hb := (zwp_bnd h).1
        replace h := (zwp_bnd h).2
        refine z_iaload (pc' := 99) (v := (y32 x35.toNatClampNeg)) hc rfl rfl sh_72 hb rfl rfl ?_
        refine g_istore_n (pc' := 100) (ls1 := [some (.ref 0), some (.int a1), some (.int (y32 x35.toNatClampNeg)), some (.int x34), some (.int x35)]) hc rfl (zlt rfl) rfl rfl ?_
        refine g_iload (pc' := 102)  hc rfl rfl rfl ?_
        refine g_istore_n (pc' := 103) (ls1 := [some (.ref 0), some (.int a1), some (.int (y32 x35.toNatClampNeg)), some (.int x35), some (.int x35)]) hc rfl (zlt rfl) rfl rfl ?_
        refine g_iinc (pc' := 106) (ls1 := [some (.ref 0), some (.int a1), some (.int (y32 x35.toNatClampNeg)), some (.int x35), some (.int (x35 + (1 : Int32)))]) hc rfl rfl zki_1 (zlt rfl) rfl rfl ?_
        refine g_goto hc rfl ?_
        replace h := zwp_l h
        exact h
  refine zitr_ev (G := (fun (g : Int32 × (Nat → Int32) × (Nat → Int32) × Int32 × (Nat → Int32) × (Nat → Int32) × (Nat → Int32) × (Nat → Int32) × (Nat → Int32)) => match g with | (x13, x15, x16, x17, x18, x19, x20, x21, x22) => ∀ z14 : Option Value, znl z14 = true → pm_ev C_X11_busiest (d + 1) (pm_call M cost zext d) cost (false, false) 108 0 0 Q 15 [some (.ref 0), some (.int a1), some (.int x13), z14, none] [] 0 0 (zS 7 19 I [(14, none, x20), (17, none, x21), (52, none, x19), (53, some 0, fun _ => x17), (53, some 1, fun _ => o7), (53, some 3, fun _ => o3), (54, none, x15), (55, none, x18), (56, none, x16), (57, none, o6), (72, none, x22)] J [(53, some 2, fun _ => o9)]))) ?_ zFU ((0 : Int32), o2, o4, o5, o8, o10, o11, o12, o1) h none rfl
  rintro ⟨x13, x15, x16, x17, x18, x19, x20, x21, x22⟩ h z14 hz14
  refine g_iload_n (pc' := 16)  hc rfl rfl rfl ?_
  refine g_iload_n (pc' := 17)  hc rfl rfl rfl ?_
  refine g_icmp_ge (pc' := 20) hc rfl rfl (fun hx => ?_) (fun hx => ?_)
  · replace h := zwp_t h hx
    replace h := zwp_r h
    exact h (some (.int x13)) rfl z14 hz14
  · replace h := zwp_f h hx
    refine g_aload_n (pc' := 21)  hc rfl rfl rfl rfl ?_
    refine z_virt (as := []) (a := 0) (r := []) hc rfl rfl rfl rfl sh_0 rfl zco_140 rfl rfl rfl ?_
    refine ok_X11_passFuture_0_p (zdp hd rfl) (zwp_mono (zwp_bind h) ?_)
    rintro ⟨o39, o40, o41, o42, o43, o44, o45⟩ h
    refine z_po (pc' := 24) (st' := []) (v := none) (L' := [(14, none, o44), (17, none, o45), (52, none, o43), (53, some 0, fun _ => o41), (53, some 1, fun _ => o7), (53, some 3, fun _ => o3), (54, none, o39), (55, none, o42), (56, none, o40), (57, none, o6), (72, none, x22)]) (K' := [(53, some 2, fun _ => o9)]) zco_140 rfl rfl rfl rfl rfl rfl rfl rfl ?_
    refine g_iconst (pc' := 25) (v := (0 : Int32)) hc rfl zki_0 rfl ?_
    refine g_istore_n (pc' := 26) (ls1 := [some (.ref 0), some (.int a1), some (.int x13), some (.int (0 : Int32)), none]) hc rfl (zlt rfl) rfl rfl ?_
    refine zjn (G := (fun (y49 : (Nat → Int32)) => ∀ z48 : Option Value, znl z48 = true → pm_ev C_X11_busiest (d + 1) (pm_call M cost zext d) cost (false, false) 108 0 0 Q 61 [some (.ref 0), some (.int a1), some (.int x13), z48, none] [] 0 0 (zS 7 19 I [(14, none, o44), (17, none, o45), (52, none, o43), (53, some 0, fun _ => o41), (53, some 1, fun _ => o7), (53, some 3, fun _ => o3), (54, none, o39), (55, none, o42), (56, none, o40), (57, none, o6), (72, none, y49)] J [(53, some 2, fun _ => o9)]))) (zwp_bind h) ?_ (fun h => ?_)
    · rintro y49 h z48 hz48
      refine g_iinc (pc' := 64) (ls1 := [some (.ref 0), some (.int a1), some (.int (x13 + (1 : Int32))), z48, none]) hc rfl rfl zki_1 (zlt rfl) rfl rfl ?_
      refine g_goto hc rfl ?_
      replace h := zwp_l h
      exact h z48 hz48
    refine zitr_ev (G := (fun (g : Int32 × (Nat → Int32)) => match g with | (x46, x47) => pm_ev C_X11_busiest (d + 1) (pm_call M cost zext d) cost (false, false) 108 0 0 Q 26 [some (.ref 0), some (.int a1), some (.int x13), some (.int x46), none] [] 0 0 (zS 7 19 I [(14, none, o44), (17, none, o45), (52, none, o43), (53, some 0, fun _ => o41), (53, some 1, fun _ => o7), (53, some 3, fun _ => o3), (54, none, o39), (55, none, o42), (56, none, o40), (57, none, o6), (72, none, x47)] J [(53, some 2, fun _ => o9)]))) ?_ zFU ((0 : Int32), x22) h
    rintro ⟨x46, x47⟩ h
    refine g_iload_n (pc' := 27)  hc rfl rfl rfl ?_
    refine g_aload_n (pc' := 28)  hc rfl rfl rfl rfl ?_
    refine z_getR (pc' := 31)  hc rfl rfl rfl sh_0 rfl rfl ?_
    refine z_getI (pc' := 34) (v := (I 7 3)) hc rfl rfl rfl sh_7 rfl rfl rfl ?_
    refine g_icmp_ge (pc' := 37) hc rfl rfl (fun hx => ?_) (fun hx => ?_)
    · replace h := zwp_t h hx
      replace h := zwp_r h
      exact h (some (.int x46)) rfl
    · replace h := zwp_f h hx
      refine g_aload_n (pc' := 38)  hc rfl rfl rfl rfl ?_
      refine z_getR (pc' := 41)  hc rfl rfl rfl sh_0 rfl rfl ?_
      refine g_aload_n (pc' := 42)  hc rfl rfl rfl rfl ?_
      refine z_getR (pc' := 45)  hc rfl rfl rfl sh_0 rfl rfl ?_
      refine z_getR (pc' := 48)  hc rfl rfl rfl sh_53 rfl rfl ?_
      refine g_iload_n (pc' := 49)  hc rfl rfl rfl ?_
      have hb := (zwp_bnd h).1
      replace h := (zwp_bnd h).2
      refine z_iaload (pc' := 50) (v := (o39 x46.toNatClampNeg)) hc rfl rfl sh_54 hb rfl rfl ?_
      refine g_dup2 (pc' := 51)  hc rfl rfl rfl rfl ?_
      have hb := (zwp_bnd h).1
      replace h := (zwp_bnd h).2
      refine z_iaload (pc' := 52) (v := (x47 (o39 x46.toNatClampNeg).toNatClampNeg)) hc rfl rfl sh_72 hb rfl rfl ?_
      refine g_iconst (pc' := 53) (v := (1 : Int32)) hc rfl zki_1 rfl ?_
      refine g_iadd (pc' := 54)  hc rfl rfl ?_
      have hb := (zwp_bnd h).1
      replace h := (zwp_bnd h).2
      refine z_iastore (pc' := 55) (g := x47) (L' := [(14, none, o44), (17, none, o45), (52, none, o43), (53, some 0, fun _ => o41), (53, some 1, fun _ => o7), (53, some 3, fun _ => o3), (54, none, o39), (55, none, o42), (56, none, o40), (57, none, o6), (72, none, (upd x47 (o39 x46.toNatClampNeg).toNatClampNeg ((x47 (o39 x46.toNatClampNeg).toNatClampNeg) + (1 : Int32))))]) hc rfl rfl sh_72 hb rfl rfl rfl rfl ?_
      refine g_iinc (pc' := 58) (ls1 := [some (.ref 0), some (.int a1), some (.int x13), some (.int (x46 + (1 : Int32))), none]) hc rfl rfl zki_1 (zlt rfl) rfl rfl ?_
      refine g_goto hc rfl ?_
      replace h := zwp_l h
      exact h
set_option maxRecDepth 4000 in
theorem ok_X11_sorest_0_p {I : pI} {J : pJ} {a1 : Int32} {Q : pQ} {d : Nat} (hd : 7 ≤ d) (h : zwp (f_X11_sorest a1 (I 54) (I 53 3) (I 56) (I 53 0) (I 57) (I 53 1) (I 55) (J 53 2) (I 52) (I 32) (I 31 3) (I 34) (I 31 0) (I 35) (I 31 1) (I 33) (J 31 2) (I 7 12) (I 7 3) (I 15) (I 13 2) (I 14) (I 7 1) (I 18) (I 16 2) (I 17) (I 12) (I 7 9) (I 9) (I 10) (I 7 0)) (fun w => match w with | (r, o0, o1, o2, o3, o4, o5, o6, o7, o8, o9, o10) => Q (.inl (some (.int r))) (zS 7 19 I [(14, none, o9), (17, none, o10), (52, none, o8), (53, some 0, fun _ => o3), (53, some 1, fun _ => o5), (53, some 3, fun _ => o1), (54, none, o0), (55, none, o6), (56, none, o2), (57, none, o4)] J [(53, some 2, fun _ => o7)]))) : pm_call M cost zext d 148 [.ref 0, .int a1] (pm_st 108 (shp 7 19) I J) Q := by
  obtain ⟨d, rfl⟩ := zd1 hd rfl
  have hc := pm_call_m (M := M) (cost := cost) zext_m d
  refine z_in (L := [(14, none, (I 14)), (17, none, (I 17)), (52, none, (I 52)), (53, some 0, fun _ => (I 53 0)), (53, some 1, fun _ => (I 53 1)), (53, some 3, fun _ => (I 53 3)), (54, none, (I 54)), (55, none, (I 55)), (56, none, (I 56)), (57, none, (I 57))]) (K := [(53, some 2, fun _ => (J 53 2))]) (ls := [some (.ref 0), some (.int a1), none, none, none]) zmt_148 zco_148 rfl rfl (zid_a (zid_a (zid_a (zid_s (zid_s (zid_s (zid_a (zid_a (zid_a (zid_a zid_n)))))))))) (zid_s zid_n) ?_
  delta f_X11_sorest at h
  refine g_aload_n (pc' := 1)  hc rfl rfl rfl rfl ?_
  refine g_iload_n (pc' := 2)  hc rfl rfl rfl ?_
  refine z_virt (as := [.int a1]) (a := 0) (r := []) hc rfl rfl rfl rfl sh_0 rfl zco_139 rfl rfl rfl ?_
  refine ok_X11_foresee_0_p (zdp hd rfl) (zwp_mono (zwp_bind h) ?_)
  rintro ⟨o1, o2, o3, o4, o5, o6, o7, o8, o9, o10, o11⟩ h
  refine z_po (pc' := 5) (st' := []) (v := none) (L' := [(14, none, o10), (17, none, o11), (52, none, o9), (53, some 0, fun _ => o4), (53, some 1, fun _ => o6), (53, some 3, fun _ => o2), (54, none, o1), (55, none, o7), (56, none, o3), (57, none, o5)]) (K' := [(53, some 2, fun _ => o8)]) zco_139 rfl rfl rfl rfl rfl rfl rfl rfl ?_
  refine g_iconst (pc' := 6) (v := (0 : Int32)) hc rfl zki_0 rfl ?_
  refine g_istore_n (pc' := 7) (ls1 := [some (.ref 0), some (.int a1), some (.int (0 : Int32)), none, none]) hc rfl (zlt rfl) rfl rfl ?_
  refine g_iconst (pc' := 8) (v := (-1 : Int32)) hc rfl zki_m1 rfl ?_
  refine g_istore_n (pc' := 9) (ls1 := [some (.ref 0), some (.int a1), some (.int (0 : Int32)), some (.int (-1 : Int32)), none]) hc rfl (zlt rfl) rfl rfl ?_
  refine g_iconst (pc' := 10) (v := (0 : Int32)) hc rfl zki_0 rfl ?_
  refine g_istore (pc' := 12) (ls1 := [some (.ref 0), some (.int a1), some (.int (0 : Int32)), some (.int (-1 : Int32)), some (.int (0 : Int32))]) hc rfl (zlt rfl) rfl rfl ?_
  refine zjn (G := (fun (y16 : Int32) => ∀ z15 : Option Value, znl z15 = true → ∀ z17 : Option Value, znl z17 = true → pm_ev C_X11_sorest (d + 1) (pm_call M cost zext d) cost (false, false) 108 0 0 Q 58 [some (.ref 0), some (.int a1), z15, some (.int y16), z17] [] 0 0 (zS 7 19 I [(14, none, o10), (17, none, o11), (52, none, o9), (53, some 0, fun _ => o4), (53, some 1, fun _ => o6), (53, some 3, fun _ => o2), (54, none, o1), (55, none, o7), (56, none, o3), (57, none, o5)] J [(53, some 2, fun _ => o8)]))) (zwp_bind h) ?_ (fun h => ?_)
  · rintro y16 h z15 hz15 z17 hz17
    refine g_iload_n (pc' := 59)  hc rfl rfl rfl ?_
    replace h := zws h
    exact g_ireturn hc rfl rfl rfl (fun _ => ⟨rfl, rfl⟩) h
  refine zitr_ev (G := (fun (g : Int32 × Int32 × Int32) => match g with | (x12, x13, x14) => pm_ev C_X11_sorest (d + 1) (pm_call M cost zext d) cost (false, false) 108 0 0 Q 12 [some (.ref 0), some (.int a1), some (.int x12), some (.int x13), some (.int x14)] [] 0 0 (zS 7 19 I [(14, none, o10), (17, none, o11), (52, none, o9), (53, some 0, fun _ => o4), (53, some 1, fun _ => o6), (53, some 3, fun _ => o2), (54, none, o1), (55, none, o7), (56, none, o3), (57, none, o5)] J [(53, some 2, fun _ => o8)]))) ?_ zFU ((0 : Int32), (-1 : Int32), (0 : Int32)) h
  rintro ⟨x12, x13, x14⟩ h
  refine g_iload (pc' := 14)  hc rfl rfl rfl ?_
  refine g_aload_n (pc' := 15)  hc rfl rfl rfl rfl ?_
  refine z_getR (pc' := 18)  hc rfl rfl rfl sh_0 rfl rfl ?_
  refine z_getI (pc' := 21) (v := (I 7 3)) hc rfl rfl rfl sh_7 rfl rfl rfl ?_
  refine g_icmp_ge (pc' := 24) hc rfl rfl (fun hx => ?_) (fun hx => ?_)
  · replace h := zwp_t h hx
    replace h := zwp_r h
    exact h (some (.int x12)) rfl (some (.int x14)) rfl
  · replace h := zwp_f h hx
    refine g_aload_n (pc' := 25)  hc rfl rfl rfl rfl ?_
    refine z_getR (pc' := 28)  hc rfl rfl rfl sh_0 rfl rfl ?_
    refine z_getR (pc' := 31)  hc rfl rfl rfl sh_53 rfl rfl ?_
    refine g_iload (pc' := 33)  hc rfl rfl rfl ?_
    have hb := (zwp_bnd h).1
    replace h := (zwp_bnd h).2
    refine z_iaload (pc' := 34) (v := (o7 x14.toNatClampNeg)) hc rfl rfl sh_55 hb rfl rfl ?_
    refine g_iload_n (pc' := 35)  hc rfl rfl rfl ?_
    refine g_icmp_le (pc' := 38) hc rfl rfl (fun hx => ?_) (fun hx => ?_)
    · replace h := zwp_t h hx
      refine g_iinc (pc' := 55) (ls1 := [some (.ref 0), some (.int a1), some (.int x12), some (.int x13), some (.int (x14 + (1 : Int32)))]) hc rfl rfl zki_1 (zlt rfl) rfl rfl ?_
      refine g_goto hc rfl ?_
      replace h := zwp_l h
      exact h
    · replace h := zwp_f h hx
      refine g_aload_n (pc' := 39)  hc rfl rfl rfl rfl ?_
      refine z_getR (pc' := 42)  hc rfl rfl rfl sh_0 rfl rfl ?_
      refine z_getR (pc' := 45)  hc rfl rfl rfl sh_53 rfl rfl ?_
      refine g_iload (pc' := 47)  hc rfl rfl rfl ?_
      have hb := (zwp_bnd h).1
      replace h := (zwp_bnd h).2
      refine z_iaload (pc' := 48) (v := (o7 x14.toNatClampNeg)) hc rfl rfl sh_55 hb rfl rfl ?_
      refine g_istore_n (pc' := 49) (ls1 := [some (.ref 0), some (.int a1), some (.int (o7 x14.toNatClampNeg)), some (.int x13), some (.int x14)]) hc rfl (zlt rfl) rfl rfl ?_
      refine g_iload (pc' := 51)  hc rfl rfl rfl ?_
      refine g_istore_n (pc' := 52) (ls1 := [some (.ref 0), some (.int a1), some (.int (o7 x14.toNatClampNeg)), some (.int x14), some (.int x14)]) hc rfl (zlt rfl) rfl rfl ?_
      refine g_iinc (pc' := 55) (ls1 := [some (.ref 0), some (.int a1), some (.int (o7 x14.toNatClampNeg)), some (.int x14), some (.int (x14 + (1 : Int32)))]) hc rfl rfl zki_1 (zlt rfl) rfl rfl ?_
      refine g_goto hc rfl ?_
      replace h := zwp_l h
      exact h
set_option maxRecDepth 4000 in
theorem ok_X8_aloneBits_53 {p q : Nat} {I : pI} {J : pJ} {Q : pQ} {d : Nat} (hd : 2 ≤ d) (h : zwp (f_X8_aloneBits (I 54) (I 53 3)) (fun r => Q (.inl (some (.int r))) (zS p q I [] J []))) : pm_call M cost zext d 74 [.ref 53] (pm_st 108 (shp p q) I J) Q := by
  obtain ⟨d, rfl⟩ := zd1 hd rfl
  have hc := pm_call_m (M := M) (cost := cost) zext_m d
  refine z_in (L := []) (K := []) (ls := [some (.ref 53), none, none]) zmt_74 zco_74 rfl rfl zid_n zid_n ?_
  delta f_X8_aloneBits at h
  refine g_iconst (pc' := 1) (v := (0 : Int32)) hc rfl zki_0 rfl ?_
  refine g_istore_n (pc' := 2) (ls1 := [some (.ref 53), some (.int (0 : Int32)), none]) hc rfl (zlt rfl) rfl rfl ?_
  refine g_iconst (pc' := 3) (v := (0 : Int32)) hc rfl zki_0 rfl ?_
  refine g_istore_n (pc' := 4) (ls1 := [some (.ref 53), some (.int (0 : Int32)), some (.int (0 : Int32))]) hc rfl (zlt rfl) rfl rfl ?_
  refine zjn (G := (fun (y3 : Int32) => ∀ z4 : Option Value, znl z4 = true → pm_ev C_X8_aloneBits (d + 1) (pm_call M cost zext d) cost (false, false) 108 0 0 Q 32 [some (.ref 53), some (.int y3), z4] [] 0 0 (zS p q I [] J []))) (zwp_bind h) ?_ (fun h => ?_)
  · rintro y3 h z4 hz4
    refine g_iload_n (pc' := 33)  hc rfl rfl rfl ?_
    replace h := zws h
    exact g_ireturn hc rfl rfl rfl (fun _ => ⟨rfl, rfl⟩) h
  refine zitr_ev (G := (fun (g : Int32 × Int32) => match g with | (x1, x2) => pm_ev C_X8_aloneBits (d + 1) (pm_call M cost zext d) cost (false, false) 108 0 0 Q 4 [some (.ref 53), some (.int x1), some (.int x2)] [] 0 0 (zS p q I [] J []))) ?_ zFU ((0 : Int32), (0 : Int32)) h
  rintro ⟨x1, x2⟩ h
  refine g_iload_n (pc' := 5)  hc rfl rfl rfl ?_
  refine g_aload_n (pc' := 6)  hc rfl rfl rfl rfl ?_
  refine z_getI (pc' := 9) (v := (I 53 3)) hc rfl rfl rfl sh_53 rfl rfl rfl ?_
  refine g_icmp_ge (pc' := 12) hc rfl rfl (fun hx => ?_) (fun hx => ?_)
  · replace h := zwp_t h hx
    replace h := zwp_r h
    exact h (some (.int x2)) rfl
  · replace h := zwp_f h hx
    refine g_aload_n (pc' := 13)  hc rfl rfl rfl rfl ?_
    refine g_iload_n (pc' := 14)  hc rfl rfl rfl ?_
    refine z_virt (as := [.int x2]) (a := 53) (r := []) hc rfl rfl rfl rfl sh_53 rfl zco_73 rfl rfl rfl ?_
    refine ok_X8_othersWith_53 (zdp hd rfl) (zwp_mono (zwp_bind h) ?_)
    rintro r5 h
    refine z_po (pc' := 17) (st' := [.int r5]) (v := (some (.int r5))) (L' := []) (K' := []) zco_73 rfl rfl rfl rfl rfl rfl rfl rfl ?_
    refine g_if_ne (pc' := 20) hc rfl rfl (fun hx => ?_) (fun hx => ?_)
    · replace h := zwp_f h hx
      refine g_iinc (pc' := 29) (ls1 := [some (.ref 53), some (.int x1), some (.int (x2 + (1 : Int32)))]) hc rfl rfl zki_1 (zlt rfl) rfl rfl ?_
      refine g_goto hc rfl ?_
      replace h := zwp_l h
      exact h
    · replace h := zwp_t h hx
      refine g_iload_n (pc' := 21)  hc rfl rfl rfl ?_
      refine g_iconst (pc' := 22) (v := (1 : Int32)) hc rfl zki_1 rfl ?_
      refine g_iload_n (pc' := 23)  hc rfl rfl rfl ?_
      refine g_ishl (pc' := 24)  hc rfl rfl ?_
      refine g_ior (pc' := 25)  hc rfl rfl ?_
      refine g_istore_n (pc' := 26) (ls1 := [some (.ref 53), some (.int (x1 ||| ((1 : Int32) <<< (x2 &&& 31)))), some (.int x2)]) hc rfl (zlt rfl) rfl rfl ?_
      refine g_iinc (pc' := 29) (ls1 := [some (.ref 53), some (.int (x1 ||| ((1 : Int32) <<< (x2 &&& 31)))), some (.int (x2 + (1 : Int32)))]) hc rfl rfl zki_1 (zlt rfl) rfl rfl ?_
      refine g_goto hc rfl ?_
      replace h := zwp_l h
      exact h
set_option maxRecDepth 4000 in
theorem ok_X11_alone_0_p {I : pI} {J : pJ} {a1 : Int32} {Q : pQ} {d : Nat} (hd : 7 ≤ d) (h : zwp (f_X11_alone a1 (I 54) (I 53 3) (I 56) (I 53 0) (I 57) (I 53 1) (I 55) (J 53 2) (I 52) (I 32) (I 31 3) (I 34) (I 31 0) (I 35) (I 31 1) (I 33) (J 31 2) (I 7 12) (I 7 3) (I 15) (I 13 2) (I 14) (I 7 1) (I 18) (I 16 2) (I 17) (I 12) (I 7 9) (I 9) (I 10) (I 7 0)) (fun w => match w with | (r, o0, o1, o2, o3, o4, o5, o6, o7, o8, o9, o10) => Q (.inl (some (.int r))) (zS 7 19 I [(14, none, o9), (17, none, o10), (52, none, o8), (53, some 0, fun _ => o3), (53, some 1, fun _ => o5), (53, some 3, fun _ => o1), (54, none, o0), (55, none, o6), (56, none, o2), (57, none, o4)] J [(53, some 2, fun _ => o7)]))) : pm_call M cost zext d 149 [.ref 0, .int a1] (pm_st 108 (shp 7 19) I J) Q := by
  obtain ⟨d, rfl⟩ := zd1 hd rfl
  have hc := pm_call_m (M := M) (cost := cost) zext_m d
  refine z_in (L := [(14, none, (I 14)), (17, none, (I 17)), (52, none, (I 52)), (53, some 0, fun _ => (I 53 0)), (53, some 1, fun _ => (I 53 1)), (53, some 3, fun _ => (I 53 3)), (54, none, (I 54)), (55, none, (I 55)), (56, none, (I 56)), (57, none, (I 57))]) (K := [(53, some 2, fun _ => (J 53 2))]) (ls := [some (.ref 0), some (.int a1), none, none]) zmt_149 zco_149 rfl rfl (zid_a (zid_a (zid_a (zid_s (zid_s (zid_s (zid_a (zid_a (zid_a (zid_a zid_n)))))))))) (zid_s zid_n) ?_
  delta f_X11_alone at h
  refine g_aload_n (pc' := 1)  hc rfl rfl rfl rfl ?_
  refine g_iconst (pc' := 2) (v := (0 : Int32)) hc rfl zki_0 rfl ?_
  refine z_virt (as := [.int (0 : Int32)]) (a := 0) (r := []) hc rfl rfl rfl rfl sh_0 rfl zco_139 rfl rfl rfl ?_
  refine ok_X11_foresee_0_p (zdp hd rfl) (zwp_mono (zwp_bind h) ?_)
  rintro ⟨o1, o2, o3, o4, o5, o6, o7, o8, o9, o10, o11⟩ h
  refine z_po (pc' := 5) (st' := []) (v := none) (L' := [(14, none, o10), (17, none, o11), (52, none, o9), (53, some 0, fun _ => o4), (53, some 1, fun _ => o6), (53, some 3, fun _ => o2), (54, none, o1), (55, none, o7), (56, none, o3), (57, none, o5)]) (K' := [(53, some 2, fun _ => o8)]) zco_139 rfl rfl rfl rfl rfl rfl rfl rfl ?_
  refine g_aload_n (pc' := 6)  hc rfl rfl rfl rfl ?_
  refine z_getR (pc' := 9)  hc rfl rfl rfl sh_0 rfl rfl ?_
  refine z_virt (as := []) (a := 53) (r := []) hc rfl rfl rfl rfl sh_53 rfl zco_74 rfl rfl rfl ?_
  refine ok_X8_aloneBits_53 (zdp hd rfl) (zwp_mono (zwp_bind h) ?_)
  rintro r12 h
  refine z_po (pc' := 12) (st' := [.int r12]) (v := (some (.int r12))) (L' := [(14, none, o10), (17, none, o11), (52, none, o9), (53, some 0, fun _ => o4), (53, some 1, fun _ => o6), (53, some 3, fun _ => o2), (54, none, o1), (55, none, o7), (56, none, o3), (57, none, o5)]) (K' := [(53, some 2, fun _ => o8)]) zco_74 rfl rfl rfl rfl rfl rfl rfl rfl ?_
  refine g_istore_n (pc' := 13) (ls1 := [some (.ref 0), some (.int a1), some (.int r12), none]) hc rfl (zlt rfl) rfl rfl ?_
  refine g_iconst (pc' := 14) (v := (0 : Int32)) hc rfl zki_0 rfl ?_
  refine g_istore_n (pc' := 15) (ls1 := [some (.ref 0), some (.int a1), some (.int r12), some (.int (0 : Int32))]) hc rfl (zlt rfl) rfl rfl ?_
  refine zjn (G := (fun (g : Int32 × (Nat → Int32) × (Nat → Int32) × Int32 × (Nat → Int32) × (Nat → Int32) × (Nat → Int32) × (Nat → Int32)) => match g with | (y22, y24, y25, y26, y27, y28, y29, y30) => ∀ z23 : Option Value, znl z23 = true → pm_ev C_X11_alone (d + 1) (pm_call M cost zext d) cost (false, false) 108 0 0 Q 40 [some (.ref 0), some (.int a1), some (.int y22), z23] [] 0 0 (zS 7 19 I [(14, none, y29), (17, none, y30), (52, none, y28), (53, some 0, fun _ => y26), (53, some 1, fun _ => o6), (53, some 3, fun _ => o2), (54, none, y24), (55, none, y27), (56, none, y25), (57, none, o5)] J [(53, some 2, fun _ => o8)]))) (zwp_bind h) ?_ (fun h => ?_)
  · rintro ⟨y22, y24, y25, y26, y27, y28, y29, y30⟩ h z23 hz23
    refine g_iload_n (pc' := 41)  hc rfl rfl rfl ?_
    replace h := zws h
    exact g_ireturn hc rfl rfl rfl (fun _ => ⟨rfl, rfl⟩) h
  refine zitr_ev (G := (fun (g : Int32 × Int32 × (Nat → Int32) × (Nat → Int32) × Int32 × (Nat → Int32) × (Nat → Int32) × (Nat → Int32) × (Nat → Int32)) => match g with | (x13, x14, x15, x16, x17, x18, x19, x20, x21) => pm_ev C_X11_alone (d + 1) (pm_call M cost zext d) cost (false, false) 108 0 0 Q 15 [some (.ref 0), some (.int a1), some (.int x13), some (.int x14)] [] 0 0 (zS 7 19 I [(14, none, x20), (17, none, x21), (52, none, x19), (53, some 0, fun _ => x17), (53, some 1, fun _ => o6), (53, some 3, fun _ => o2), (54, none, x15), (55, none, x18), (56, none, x16), (57, none, o5)] J [(53, some 2, fun _ => o8)]))) ?_ zFU (r12, (0 : Int32), o1, o3, o4, o7, o9, o10, o11) h
  rintro ⟨x13, x14, x15, x16, x17, x18, x19, x20, x21⟩ h
  refine g_iload_n (pc' := 16)  hc rfl rfl rfl ?_
  refine g_iload_n (pc' := 17)  hc rfl rfl rfl ?_
  refine g_icmp_ge (pc' := 20) hc rfl rfl (fun hx => ?_) (fun hx => ?_)
  · replace h := zwp_t h hx
    replace h := zwp_r h
    exact h (some (.int x14)) rfl
  · replace h := zwp_f h hx
    refine g_aload_n (pc' := 21)  hc rfl rfl rfl rfl ?_
    refine z_virt (as := []) (a := 0) (r := []) hc rfl rfl rfl rfl sh_0 rfl zco_140 rfl rfl rfl ?_
    refine ok_X11_passFuture_0_p (zdp hd rfl) (zwp_mono (zwp_bind h) ?_)
    rintro ⟨o31, o32, o33, o34, o35, o36, o37⟩ h
    refine z_po (pc' := 24) (st' := []) (v := none) (L' := [(14, none, o36), (17, none, o37), (52, none, o35), (53, some 0, fun _ => o33), (53, some 1, fun _ => o6), (53, some 3, fun _ => o2), (54, none, o31), (55, none, o34), (56, none, o32), (57, none, o5)]) (K' := [(53, some 2, fun _ => o8)]) zco_140 rfl rfl rfl rfl rfl rfl rfl rfl ?_
    refine g_iload_n (pc' := 25)  hc rfl rfl rfl ?_
    refine g_aload_n (pc' := 26)  hc rfl rfl rfl rfl ?_
    refine z_getR (pc' := 29)  hc rfl rfl rfl sh_0 rfl rfl ?_
    refine z_virt (as := []) (a := 53) (r := [.int x13]) hc rfl rfl rfl rfl sh_53 rfl zco_74 rfl rfl rfl ?_
    refine ok_X8_aloneBits_53 (zdp hd rfl) (zwp_mono (zwp_bind h) ?_)
    rintro r38 h
    refine z_po (pc' := 32) (st' := [.int r38, .int x13]) (v := (some (.int r38))) (L' := [(14, none, o36), (17, none, o37), (52, none, o35), (53, some 0, fun _ => o33), (53, some 1, fun _ => o6), (53, some 3, fun _ => o2), (54, none, o31), (55, none, o34), (56, none, o32), (57, none, o5)]) (K' := [(53, some 2, fun _ => o8)]) zco_74 rfl rfl rfl rfl rfl rfl rfl rfl ?_
    refine g_iand (pc' := 33)  hc rfl rfl ?_
    refine g_istore_n (pc' := 34) (ls1 := [some (.ref 0), some (.int a1), some (.int (x13 &&& r38)), some (.int x14)]) hc rfl (zlt rfl) rfl rfl ?_
    refine g_iinc (pc' := 37) (ls1 := [some (.ref 0), some (.int a1), some (.int (x13 &&& r38)), some (.int (x14 + (1 : Int32)))]) hc rfl rfl zki_1 (zlt rfl) rfl rfl ?_
    refine g_goto hc rfl ?_
    replace h := zwp_l h
    exact h
set_option maxRecDepth 4000 in
theorem ok_X11_stuck_0_p {I : pI} {J : pJ} {a1 : Int32} {Q : pQ} {d : Nat} (hd : 7 ≤ d) (h : zwp (f_X11_stuck a1 (I 54) (I 53 3) (I 56) (I 53 0) (I 57) (I 53 1) (I 55) (J 53 2) (I 52) (I 32) (I 31 3) (I 34) (I 31 0) (I 35) (I 31 1) (I 33) (J 31 2) (I 7 12) (I 7 3) (I 15) (I 13 2) (I 14) (I 7 1) (I 18) (I 16 2) (I 17) (I 12) (I 7 9) (I 9) (I 10) (I 7 0)) (fun w => match w with | (r, o0, o1, o2, o3, o4, o5, o6, o7, o8, o9, o10) => Q (.inl (some (.int r))) (zS 7 19 I [(14, none, o9), (17, none, o10), (52, none, o8), (53, some 0, fun _ => o3), (53, some 1, fun _ => o5), (53, some 3, fun _ => o1), (54, none, o0), (55, none, o6), (56, none, o2), (57, none, o4)] J [(53, some 2, fun _ => o7)]))) : pm_call M cost zext d 150 [.ref 0, .int a1] (pm_st 108 (shp 7 19) I J) Q := by
  obtain ⟨d, rfl⟩ := zd1 hd rfl
  have hc := pm_call_m (M := M) (cost := cost) zext_m d
  refine z_in (L := [(14, none, (I 14)), (17, none, (I 17)), (52, none, (I 52)), (53, some 0, fun _ => (I 53 0)), (53, some 1, fun _ => (I 53 1)), (53, some 3, fun _ => (I 53 3)), (54, none, (I 54)), (55, none, (I 55)), (56, none, (I 56)), (57, none, (I 57))]) (K := [(53, some 2, fun _ => (J 53 2))]) (ls := [some (.ref 0), some (.int a1), none, none]) zmt_150 zco_150 rfl rfl (zid_a (zid_a (zid_a (zid_s (zid_s (zid_s (zid_a (zid_a (zid_a (zid_a zid_n)))))))))) (zid_s zid_n) ?_
  delta f_X11_stuck at h
  refine g_aload_n (pc' := 1)  hc rfl rfl rfl rfl ?_
  refine g_iconst (pc' := 2) (v := (0 : Int32)) hc rfl zki_0 rfl ?_
  refine z_virt (as := [.int (0 : Int32)]) (a := 0) (r := []) hc rfl rfl rfl rfl sh_0 rfl zco_139 rfl rfl rfl ?_
  refine ok_X11_foresee_0_p (zdp hd rfl) (zwp_mono (zwp_bind h) ?_)
  rintro ⟨o1, o2, o3, o4, o5, o6, o7, o8, o9, o10, o11⟩ h
  refine z_po (pc' := 5) (st' := []) (v := none) (L' := [(14, none, o10), (17, none, o11), (52, none, o9), (53, some 0, fun _ => o4), (53, some 1, fun _ => o6), (53, some 3, fun _ => o2), (54, none, o1), (55, none, o7), (56, none, o3), (57, none, o5)]) (K' := [(53, some 2, fun _ => o8)]) zco_139 rfl rfl rfl rfl rfl rfl rfl rfl ?_
  refine g_iconst (pc' := 6) (v := (1 : Int32)) hc rfl zki_1 rfl ?_
  refine g_aload_n (pc' := 7)  hc rfl rfl rfl rfl ?_
  refine z_getR (pc' := 10)  hc rfl rfl rfl sh_0 rfl rfl ?_
  refine z_getI (pc' := 13) (v := (I 7 3)) hc rfl rfl rfl sh_7 rfl rfl rfl ?_
  refine g_ishl (pc' := 14)  hc rfl rfl ?_
  refine g_iconst (pc' := 15) (v := (1 : Int32)) hc rfl zki_1 rfl ?_
  refine g_isub (pc' := 16)  hc rfl rfl ?_
  refine g_istore_n (pc' := 17) (ls1 := [some (.ref 0), some (.int a1), some (.int (((1 : Int32) <<< (((I 7 3)) &&& 31)) - (1 : Int32))), none]) hc rfl (zlt rfl) rfl rfl ?_
  refine g_iconst (pc' := 18) (v := (0 : Int32)) hc rfl zki_0 rfl ?_
  refine g_istore_n (pc' := 19) (ls1 := [some (.ref 0), some (.int a1), some (.int (((1 : Int32) <<< (((I 7 3)) &&& 31)) - (1 : Int32))), some (.int (0 : Int32))]) hc rfl (zlt rfl) rfl rfl ?_
  refine zjn (G := (fun (g : Int32 × (Nat → Int32) × (Nat → Int32) × Int32 × (Nat → Int32) × (Nat → Int32) × (Nat → Int32) × (Nat → Int32)) => match g with | (y21, y23, y24, y25, y26, y27, y28, y29) => ∀ z22 : Option Value, znl z22 = true → pm_ev C_X11_stuck (d + 1) (pm_call M cost zext d) cost (false, false) 108 0 0 Q 48 [some (.ref 0), some (.int a1), some (.int y21), z22] [] 0 0 (zS 7 19 I [(14, none, y28), (17, none, y29), (52, none, y27), (53, some 0, fun _ => y25), (53, some 1, fun _ => o6), (53, some 3, fun _ => o2), (54, none, y23), (55, none, y26), (56, none, y24), (57, none, o5)] J [(53, some 2, fun _ => o8)]))) (zwp_bind h) ?_ (fun h => ?_)
  · rintro ⟨y21, y23, y24, y25, y26, y27, y28, y29⟩ h z22 hz22
    refine g_iload_n (pc' := 49)  hc rfl rfl rfl ?_
    replace h := zws h
    exact g_ireturn hc rfl rfl rfl (fun _ => ⟨rfl, rfl⟩) h
  refine zitr_ev (G := (fun (g : Int32 × Int32 × (Nat → Int32) × (Nat → Int32) × Int32 × (Nat → Int32) × (Nat → Int32) × (Nat → Int32) × (Nat → Int32)) => match g with | (x12, x13, x14, x15, x16, x17, x18, x19, x20) => pm_ev C_X11_stuck (d + 1) (pm_call M cost zext d) cost (false, false) 108 0 0 Q 19 [some (.ref 0), some (.int a1), some (.int x12), some (.int x13)] [] 0 0 (zS 7 19 I [(14, none, x19), (17, none, x20), (52, none, x18), (53, some 0, fun _ => x16), (53, some 1, fun _ => o6), (53, some 3, fun _ => o2), (54, none, x14), (55, none, x17), (56, none, x15), (57, none, o5)] J [(53, some 2, fun _ => o8)]))) ?_ zFU ((((1 : Int32) <<< (((I 7 3)) &&& 31)) - (1 : Int32)), (0 : Int32), o1, o3, o4, o7, o9, o10, o11) h
  rintro ⟨x12, x13, x14, x15, x16, x17, x18, x19, x20⟩ h
  refine g_iload_n (pc' := 20)  hc rfl rfl rfl ?_
  refine g_iload_n (pc' := 21)  hc rfl rfl rfl ?_
  refine g_icmp_ge (pc' := 24) hc rfl rfl (fun hx => ?_) (fun hx => ?_)
  · replace h := zwp_t h hx
    replace h := zwp_r h
    exact h (some (.int x13)) rfl
  · replace h := zwp_f h hx
    refine g_aload_n (pc' := 25)  hc rfl rfl rfl rfl ?_
    refine z_virt (as := []) (a := 0) (r := []) hc rfl rfl rfl rfl sh_0 rfl zco_140 rfl rfl rfl ?_
    refine ok_X11_passFuture_0_p (zdp hd rfl) (zwp_mono (zwp_bind h) ?_)
    rintro ⟨o30, o31, o32, o33, o34, o35, o36⟩ h
    refine z_po (pc' := 28) (st' := []) (v := none) (L' := [(14, none, o35), (17, none, o36), (52, none, o34), (53, some 0, fun _ => o32), (53, some 1, fun _ => o6), (53, some 3, fun _ => o2), (54, none, o30), (55, none, o33), (56, none, o31), (57, none, o5)]) (K' := [(53, some 2, fun _ => o8)]) zco_140 rfl rfl rfl rfl rfl rfl rfl rfl ?_
    refine g_iload_n (pc' := 29)  hc rfl rfl rfl ?_
    refine g_aload_n (pc' := 30)  hc rfl rfl rfl rfl ?_
    refine z_getR (pc' := 33)  hc rfl rfl rfl sh_0 rfl rfl ?_
    refine g_aload_n (pc' := 34)  hc rfl rfl rfl rfl ?_
    refine z_getR (pc' := 37)  hc rfl rfl rfl sh_0 rfl rfl ?_
    refine z_virt (as := [.ref 31]) (a := 53) (r := [.int x12]) hc rfl rfl rfl rfl sh_53 rfl zco_75 rfl rfl rfl ?_
    refine ok_X8_placedAsBits_53_31 (zdp hd rfl) (zwp_mono (zwp_bind h) ?_)
    rintro r37 h
    refine z_po (pc' := 40) (st' := [.int r37, .int x12]) (v := (some (.int r37))) (L' := [(14, none, o35), (17, none, o36), (52, none, o34), (53, some 0, fun _ => o32), (53, some 1, fun _ => o6), (53, some 3, fun _ => o2), (54, none, o30), (55, none, o33), (56, none, o31), (57, none, o5)]) (K' := [(53, some 2, fun _ => o8)]) zco_75 rfl rfl rfl rfl rfl rfl rfl rfl ?_
    refine g_iand (pc' := 41)  hc rfl rfl ?_
    refine g_istore_n (pc' := 42) (ls1 := [some (.ref 0), some (.int a1), some (.int (x12 &&& r37)), some (.int x13)]) hc rfl (zlt rfl) rfl rfl ?_
    refine g_iinc (pc' := 45) (ls1 := [some (.ref 0), some (.int a1), some (.int (x12 &&& r37)), some (.int (x13 + (1 : Int32)))]) hc rfl rfl zki_1 (zlt rfl) rfl rfl ?_
    refine g_goto hc rfl ?_
    replace h := zwp_l h
    exact h
set_option maxRecDepth 4000 in
theorem ok_X11_later_0_p {I : pI} {J : pJ} {a1 : Int32} {a2 : Int32} {Q : pQ} {d : Nat} (hd : 8 ≤ d) (h : zwp (f_X11_later a1 a2 (I 54) (I 53 3) (I 56) (I 53 0) (I 57) (I 53 1) (I 55) (J 53 2) (I 52) (I 32) (I 31 3) (I 34) (I 31 0) (I 35) (I 31 1) (I 33) (J 31 2) (I 7 12) (I 7 3) (I 15) (I 13 2) (I 14) (I 7 1) (I 18) (I 16 2) (I 17) (I 12) (I 7 9) (I 9) (I 10) (I 7 0) (I 72)) (fun w => match w with | (.inl r, o0, o1, o2, o3, o4, o5, o6, o7, o8, o9, o10, o11) => Q (.inl (some (.int r))) (zS 7 19 I [(14, none, o9), (17, none, o10), (52, none, o8), (53, some 0, fun _ => o3), (53, some 1, fun _ => o5), (53, some 3, fun _ => o1), (54, none, o0), (55, none, o6), (56, none, o2), (57, none, o4), (72, none, o11)] J [(53, some 2, fun _ => o7)]) | (.inr E, o0, o1, o2, o3, o4, o5, o6, o7, o8, o9, o10, o11) => Q (.inr E) (zS 7 19 I [(14, none, o9), (17, none, o10), (52, none, o8), (53, some 0, fun _ => o3), (53, some 1, fun _ => o5), (53, some 3, fun _ => o1), (54, none, o0), (55, none, o6), (56, none, o2), (57, none, o4), (72, none, o11)] J [(53, some 2, fun _ => o7)]))) : pm_call M cost zext d 127 [.ref 0, .int a1, .int a2] (pm_st 108 (shp 7 19) I J) Q := by
  obtain ⟨d, rfl⟩ := zd1 hd rfl
  have hc := pm_call_m (M := M) (cost := cost) zext_m d
  refine z_in (L := [(14, none, (I 14)), (17, none, (I 17)), (52, none, (I 52)), (53, some 0, fun _ => (I 53 0)), (53, some 1, fun _ => (I 53 1)), (53, some 3, fun _ => (I 53 3)), (54, none, (I 54)), (55, none, (I 55)), (56, none, (I 56)), (57, none, (I 57)), (72, none, (I 72))]) (K := [(53, some 2, fun _ => (J 53 2))]) (ls := [some (.ref 0), some (.int a1), some (.int a2)]) zmt_127 zco_127 rfl rfl (zid_a (zid_a (zid_a (zid_s (zid_s (zid_s (zid_a (zid_a (zid_a (zid_a (zid_a zid_n))))))))))) (zid_s zid_n) ?_
  delta f_X11_later at h
  refine g_iload_n (pc' := 1)  hc rfl rfl rfl ?_
  refine g_iconst (pc' := 2) (v := (3 : Int32)) hc rfl zki_3 rfl ?_
  refine z_stat (as := [.int a2, .int (3 : Int32)]) (r := []) hc rfl rfl rfl rfl zco_135 rfl rfl rfl ?_
  refine ok_X11_checkWhat (zdp hd rfl) (zwp_mono (zwp_bind h) ?_)
  rintro (⟨⟩ | E1) h
  · refine z_po (pc' := 5) (st' := []) (v := none) (L' := [(14, none, (I 14)), (17, none, (I 17)), (52, none, (I 52)), (53, some 0, fun _ => (I 53 0)), (53, some 1, fun _ => (I 53 1)), (53, some 3, fun _ => (I 53 3)), (54, none, (I 54)), (55, none, (I 55)), (56, none, (I 56)), (57, none, (I 57)), (72, none, (I 72))]) (K' := [(53, some 2, fun _ => (J 53 2))]) zco_135 rfl rfl rfl rfl rfl rfl rfl rfl ?_
    refine g_iload_n (pc' := 6)  hc rfl rfl rfl ?_
    refine g_iload_n (pc' := 7)  hc rfl rfl rfl ?_
    refine zjn (G := (fun (j2 : Int32) => pm_ev C_X11_later (d + 1) (pm_call M cost zext d) cost (false, false) 108 1 6 Q 15 [some (.ref 0), some (.int a1), some (.int a2)] [.int j2, .int a1] 0 0 (zS 7 19 I [(14, none, (I 14)), (17, none, (I 17)), (52, none, (I 52)), (53, some 0, fun _ => (I 53 0)), (53, some 1, fun _ => (I 53 1)), (53, some 3, fun _ => (I 53 3)), (54, none, (I 54)), (55, none, (I 55)), (56, none, (I 56)), (57, none, (I 57)), (72, none, (I 72))] J [(53, some 2, fun _ => (J 53 2))]))) (zwp_bind h) ?_ (fun h => ?_)
    · rintro j2 h
      refine g_bipush (pc' := 17) (v := (100 : Int32)) hc rfl zkb_100 rfl ?_
      refine z_stat (as := [.int a1, .int j2, .int (100 : Int32)]) (r := []) hc rfl rfl rfl rfl zco_136 rfl rfl rfl ?_
      refine ok_X11_checkHours (zdp hd rfl) (zwp_mono (zwp_bind h) ?_)
      rintro (⟨⟩ | E3) h
      · refine z_po (pc' := 20) (st' := []) (v := none) (L' := [(14, none, (I 14)), (17, none, (I 17)), (52, none, (I 52)), (53, some 0, fun _ => (I 53 0)), (53, some 1, fun _ => (I 53 1)), (53, some 3, fun _ => (I 53 3)), (54, none, (I 54)), (55, none, (I 55)), (56, none, (I 56)), (57, none, (I 57)), (72, none, (I 72))]) (K' := [(53, some 2, fun _ => (J 53 2))]) zco_136 rfl rfl rfl rfl rfl rfl rfl rfl ?_
        refine g_iload_n (pc' := 21)  hc rfl rfl rfl ?_
        refine g_if_ne (pc' := 24) hc rfl rfl (fun hx => ?_) (fun hx => ?_)
        · replace h := zwp_f h hx
          refine g_iload_n (pc' := 31)  hc rfl rfl rfl ?_
          refine g_iconst (pc' := 32) (v := (1 : Int32)) hc rfl zki_1 rfl ?_
          refine g_icmp_ne (pc' := 35) hc rfl rfl (fun hx => ?_) (fun hx => ?_)
          · replace h := zwp_f h hx
            refine g_iload_n (pc' := 42)  hc rfl rfl rfl ?_
            refine g_iconst (pc' := 43) (v := (2 : Int32)) hc rfl zki_2 rfl ?_
            refine g_icmp_ne (pc' := 46) hc rfl rfl (fun hx => ?_) (fun hx => ?_)
            · replace h := zwp_f h hx
              refine g_aload_n (pc' := 55)  hc rfl rfl rfl rfl ?_
              refine g_iload_n (pc' := 56)  hc rfl rfl rfl ?_
              refine z_virt (as := [.int a1]) (a := 0) (r := []) hc rfl rfl rfl rfl sh_0 rfl zco_150 rfl rfl rfl ?_
              refine ok_X11_stuck_0_p (zdp hd rfl) (zwp_mono (zwp_bind h) ?_)
              rintro ⟨r15, o4, o5, o6, o7, o8, o9, o10, o11, o12, o13, o14⟩ h
              refine z_po (pc' := 59) (st' := [.int r15]) (v := (some (.int r15))) (L' := [(14, none, o13), (17, none, o14), (52, none, o12), (53, some 0, fun _ => o7), (53, some 1, fun _ => o9), (53, some 3, fun _ => o5), (54, none, o4), (55, none, o10), (56, none, o6), (57, none, o8), (72, none, (I 72))]) (K' := [(53, some 2, fun _ => o11)]) zco_150 rfl rfl rfl rfl rfl rfl rfl rfl ?_
              replace h := zws h
              exact g_ireturn hc rfl rfl rfl (fun _ => ⟨rfl, rfl⟩) h
            · replace h := zwp_t h hx
              refine g_aload_n (pc' := 47)  hc rfl rfl rfl rfl ?_
              refine g_iload_n (pc' := 48)  hc rfl rfl rfl ?_
              refine z_virt (as := [.int a1]) (a := 0) (r := []) hc rfl rfl rfl rfl sh_0 rfl zco_149 rfl rfl rfl ?_
              refine ok_X11_alone_0_p (zdp hd rfl) (zwp_mono (zwp_bind h) ?_)
              rintro ⟨r27, o16, o17, o18, o19, o20, o21, o22, o23, o24, o25, o26⟩ h
              refine z_po (pc' := 51) (st' := [.int r27]) (v := (some (.int r27))) (L' := [(14, none, o25), (17, none, o26), (52, none, o24), (53, some 0, fun _ => o19), (53, some 1, fun _ => o21), (53, some 3, fun _ => o17), (54, none, o16), (55, none, o22), (56, none, o18), (57, none, o20), (72, none, (I 72))]) (K' := [(53, some 2, fun _ => o23)]) zco_149 rfl rfl rfl rfl rfl rfl rfl rfl ?_
              refine g_goto hc rfl ?_
              replace h := zws h
              exact g_ireturn hc rfl rfl rfl (fun _ => ⟨rfl, rfl⟩) h
          · replace h := zwp_t h hx
            refine g_aload_n (pc' := 36)  hc rfl rfl rfl rfl ?_
            refine g_iload_n (pc' := 37)  hc rfl rfl rfl ?_
            refine z_virt (as := [.int a1]) (a := 0) (r := []) hc rfl rfl rfl rfl sh_0 rfl zco_148 rfl rfl rfl ?_
            refine ok_X11_sorest_0_p (zdp hd rfl) (zwp_mono (zwp_bind h) ?_)
            rintro ⟨r39, o28, o29, o30, o31, o32, o33, o34, o35, o36, o37, o38⟩ h
            refine z_po (pc' := 40) (st' := [.int r39]) (v := (some (.int r39))) (L' := [(14, none, o37), (17, none, o38), (52, none, o36), (53, some 0, fun _ => o31), (53, some 1, fun _ => o33), (53, some 3, fun _ => o29), (54, none, o28), (55, none, o34), (56, none, o30), (57, none, o32), (72, none, (I 72))]) (K' := [(53, some 2, fun _ => o35)]) zco_148 rfl rfl rfl rfl rfl rfl rfl rfl ?_
            replace h := zws h
            exact g_ireturn hc rfl rfl rfl (fun _ => ⟨rfl, rfl⟩) h
        · replace h := zwp_t h hx
          refine g_aload_n (pc' := 25)  hc rfl rfl rfl rfl ?_
          refine g_iload_n (pc' := 26)  hc rfl rfl rfl ?_
          refine z_virt (as := [.int a1]) (a := 0) (r := []) hc rfl rfl rfl rfl sh_0 rfl zco_147 rfl rfl rfl ?_
          refine ok_X11_busiest_0_p (zdp hd rfl) (zwp_mono (zwp_bind h) ?_)
          rintro ⟨r52, o40, o41, o42, o43, o44, o45, o46, o47, o48, o49, o50, o51⟩ h
          refine z_po (pc' := 29) (st' := [.int r52]) (v := (some (.int r52))) (L' := [(14, none, o49), (17, none, o50), (52, none, o48), (53, some 0, fun _ => o43), (53, some 1, fun _ => o45), (53, some 3, fun _ => o41), (54, none, o40), (55, none, o46), (56, none, o42), (57, none, o44), (72, none, o51)]) (K' := [(53, some 2, fun _ => o47)]) zco_147 rfl rfl rfl rfl rfl rfl rfl rfl ?_
          replace h := zws h
          exact g_ireturn hc rfl rfl rfl (fun _ => ⟨rfl, rfl⟩) h
      · replace h := zws h
        exact z_pox (L' := [(14, none, (I 14)), (17, none, (I 17)), (52, none, (I 52)), (53, some 0, fun _ => (I 53 0)), (53, some 1, fun _ => (I 53 1)), (53, some 3, fun _ => (I 53 3)), (54, none, (I 54)), (55, none, (I 55)), (56, none, (I 56)), (57, none, (I 57)), (72, none, (I 72))]) (K' := [(53, some 2, fun _ => (J 53 2))]) rfl rfl rfl rfl rfl rfl rfl h
    refine g_if_ne (pc' := 10) hc rfl rfl (fun hx => ?_) (fun hx => ?_)
    · replace h := zwp_f h hx
      refine g_iconst (pc' := 15) (v := (0 : Int32)) hc rfl zki_0 rfl ?_
      replace h := zws h
      exact h
    · replace h := zwp_t h hx
      refine g_iconst (pc' := 11) (v := (1 : Int32)) hc rfl zki_1 rfl ?_
      refine g_goto hc rfl ?_
      replace h := zws h
      exact h
  · replace h := zws h
    exact z_pox (L' := [(14, none, (I 14)), (17, none, (I 17)), (52, none, (I 52)), (53, some 0, fun _ => (I 53 0)), (53, some 1, fun _ => (I 53 1)), (53, some 3, fun _ => (I 53 3)), (54, none, (I 54)), (55, none, (I 55)), (56, none, (I 56)), (57, none, (I 57)), (72, none, (I 72))]) (K' := [(53, some 2, fun _ => (J 53 2))]) rfl rfl rfl rfl rfl rfl rfl h
set_option maxRecDepth 4000 in
theorem ok_L_later_0_107_p {I : pI} {J : pJ} {a1 : Int32} {a2 : Int32} {Q : pQ} {d : Nat} (hd : 9 ≤ d) (h : zwp (f_L_later a1 a2 1 (J 107) (I 54) (I 53 3) (I 56) (I 53 0) (I 57) (I 53 1) (I 55) (J 53 2) (I 52) (I 32) (I 31 3) (I 34) (I 31 0) (I 35) (I 31 1) (I 33) (J 31 2) (I 7 12) (I 7 3) (I 15) (I 13 2) (I 14) (I 7 1) (I 18) (I 16 2) (I 17) (I 12) (I 7 9) (I 9) (I 10) (I 7 0) (I 72)) (fun w => match w with | (r, o0, o1, o2, o3, o4, o5, o6, o7, o8, o9, o10, o11, o12) => Q (.inl (some (.int r))) (zS 7 19 I [(14, none, o10), (17, none, o11), (52, none, o9), (53, some 0, fun _ => o4), (53, some 1, fun _ => o6), (53, some 3, fun _ => o2), (54, none, o1), (55, none, o7), (56, none, o3), (57, none, o5), (72, none, o12)] J [(53, some 2, fun _ => o8), (107, none, o0)]))) : pm_call M cost zext d 296 [.ref 0, .int a1, .int a2, .ref 107] (pm_st 108 (shp 7 19) I J) Q := by
  obtain ⟨d, rfl⟩ := zd1 hd rfl
  have hc := pm_call_m (M := M) (cost := cost) zext_m d
  refine z_in (L := [(14, none, (I 14)), (17, none, (I 17)), (52, none, (I 52)), (53, some 0, fun _ => (I 53 0)), (53, some 1, fun _ => (I 53 1)), (53, some 3, fun _ => (I 53 3)), (54, none, (I 54)), (55, none, (I 55)), (56, none, (I 56)), (57, none, (I 57)), (72, none, (I 72))]) (K := [(53, some 2, fun _ => (J 53 2)), (107, none, (J 107))]) (ls := [some (.ref 0), some (.int a1), some (.int a2), some (.ref 107), none]) zmt_296 zco_296 rfl rfl (zid_a (zid_a (zid_a (zid_s (zid_s (zid_s (zid_a (zid_a (zid_a (zid_a (zid_a zid_n))))))))))) (zid_s (zid_a zid_n)) ?_
  delta f_L_later at h
  refine g_aload_n (pc' := 1)  hc rfl rfl rfl rfl ?_
  refine g_iconst (pc' := 2) (v := (0 : Int32)) hc rfl zki_0 rfl ?_
  refine g_aload_n (pc' := 3)  hc rfl rfl rfl rfl ?_
  refine g_iload_n (pc' := 4)  hc rfl rfl rfl ?_
  refine g_iload_n (pc' := 5)  hc rfl rfl rfl ?_
  refine z_virt (as := [.int a1, .int a2]) (a := 0) (r := [.int (0 : Int32), .ref 107]) hc rfl rfl rfl rfl sh_0 rfl zco_127 rfl rfl rfl ?_
  refine ok_X11_later_0_p (zdp hd rfl) (zwp_mono (zwp_bind h) ?_)
  rintro ⟨(r13 | E14), o1, o2, o3, o4, o5, o6, o7, o8, o9, o10, o11, o12⟩ h
  · refine z_po (pc' := 8) (st' := [.int r13, .int (0 : Int32), .ref 107]) (v := (some (.int r13))) (L' := [(14, none, o10), (17, none, o11), (52, none, o9), (53, some 0, fun _ => o4), (53, some 1, fun _ => o6), (53, some 3, fun _ => o2), (54, none, o1), (55, none, o7), (56, none, o3), (57, none, o5), (72, none, o12)]) (K' := [(53, some 2, fun _ => o8), (107, none, (J 107))]) zco_127 rfl rfl rfl rfl rfl rfl rfl rfl ?_
    refine g_i2l (pc' := 9)  hc rfl rfl ?_
    have hb := (zwp_bnd h).1
    replace h := (zwp_bnd h).2
    refine z_lastore (pc' := 10) (g := (J 107)) (K' := [(53, some 2, fun _ => o8), (107, none, (vp_updL ((J 107)) (0 : Int32).toNatClampNeg r13.toInt64))]) hc rfl rfl sh_107 hb rfl rfl rfl rfl ?_
    refine g_goto hc rfl ?_
    refine g_iconst (pc' := 22) (v := (0 : Int32)) hc rfl zki_0 rfl ?_
    replace h := zws h
    exact g_ireturn hc rfl rfl rfl (fun _ => ⟨rfl, rfl⟩) h
  · by_cases hE : E14 = x_N
    · replace h := zwp_t h hE
      replace h := zws h
      exact z_poh (L' := [(14, none, o10), (17, none, o11), (52, none, o9), (53, some 0, fun _ => o4), (53, some 1, fun _ => o6), (53, some 3, fun _ => o2), (54, none, o1), (55, none, o7), (56, none, o3), (57, none, o5), (72, none, o12)]) (K' := [(53, some 2, fun _ => o8), (107, none, (J 107))]) (zhd2a (e := 10) (pc := 5) rfl hE) rfl rfl rfl rfl rfl rfl rfl rfl h
    replace h := zwp_f h hE
    have hN := hE
    by_cases hE : E14 = x_I
    · replace h := zwp_t h hE
      replace h := zws h
      exact z_poh (L' := [(14, none, o10), (17, none, o11), (52, none, o9), (53, some 0, fun _ => o4), (53, some 1, fun _ => o6), (53, some 3, fun _ => o2), (54, none, o1), (55, none, o7), (56, none, o3), (57, none, o5), (72, none, o12)]) (K' := [(53, some 2, fun _ => o8), (107, none, (J 107))]) (zhd2b (e := 10) (pc := 5) rfl hN hE) rfl rfl rfl rfl rfl rfl rfl rfl h
    replace h := zwp_f h hE
    exact (zwn h).elim
set_option maxRecDepth 4000 in
theorem ok_X11_together_0_p {I : pI} {J : pJ} {a1 : Int32} {a2 : Int32} {a3 : Int32} {Q : pQ} {d : Nat} (hd : 8 ≤ d) (h : zwp (f_X11_together a1 a2 a3 (I 54) (I 53 3) (I 56) (I 53 0) (I 57) (I 53 1) (I 55) (J 53 2) (I 52) (I 32) (I 31 3) (I 34) (I 31 0) (I 35) (I 31 1) (I 33) (J 31 2) (I 7 12) (I 7 3) (I 15) (I 13 2) (I 14) (I 7 1) (I 18) (I 16 2) (I 17) (I 12) (I 7 9) (I 9) (I 10) (I 7 0)) (fun w => match w with | (.inl r, o0, o1, o2, o3, o4, o5, o6, o7, o8, o9, o10) => Q (.inl (some (.int r))) (zS 7 19 I [(14, none, o9), (17, none, o10), (52, none, o8), (53, some 0, fun _ => o3), (53, some 1, fun _ => o5), (53, some 3, fun _ => o1), (54, none, o0), (55, none, o6), (56, none, o2), (57, none, o4)] J [(53, some 2, fun _ => o7)]) | (.inr E, o0, o1, o2, o3, o4, o5, o6, o7, o8, o9, o10) => Q (.inr E) (zS 7 19 I [(14, none, o9), (17, none, o10), (52, none, o8), (53, some 0, fun _ => o3), (53, some 1, fun _ => o5), (53, some 3, fun _ => o1), (54, none, o0), (55, none, o6), (56, none, o2), (57, none, o4)] J [(53, some 2, fun _ => o7)]))) : pm_call M cost zext d 128 [.ref 0, .int a1, .int a2, .int a3] (pm_st 108 (shp 7 19) I J) Q := by
  obtain ⟨d, rfl⟩ := zd1 hd rfl
  have hc := pm_call_m (M := M) (cost := cost) zext_m d
  refine z_in (L := [(14, none, (I 14)), (17, none, (I 17)), (52, none, (I 52)), (53, some 0, fun _ => (I 53 0)), (53, some 1, fun _ => (I 53 1)), (53, some 3, fun _ => (I 53 3)), (54, none, (I 54)), (55, none, (I 55)), (56, none, (I 56)), (57, none, (I 57))]) (K := [(53, some 2, fun _ => (J 53 2))]) (ls := [some (.ref 0), some (.int a1), some (.int a2), some (.int a3), none, none]) zmt_128 zco_128 rfl rfl (zid_a (zid_a (zid_a (zid_s (zid_s (zid_s (zid_a (zid_a (zid_a (zid_a zid_n)))))))))) (zid_s zid_n) ?_
  delta f_X11_together at h
  refine g_aload_n (pc' := 1)  hc rfl rfl rfl rfl ?_
  refine g_iload_n (pc' := 2)  hc rfl rfl rfl ?_
  refine z_virt (as := [.int a1]) (a := 0) (r := []) hc rfl rfl rfl rfl sh_0 rfl zco_133 rfl rfl rfl ?_
  refine ok_X11_checkFigure_0_p (zdp hd rfl) (zwp_mono (zwp_bind h) ?_)
  rintro (⟨⟩ | E1) h
  · refine z_po (pc' := 5) (st' := []) (v := none) (L' := [(14, none, (I 14)), (17, none, (I 17)), (52, none, (I 52)), (53, some 0, fun _ => (I 53 0)), (53, some 1, fun _ => (I 53 1)), (53, some 3, fun _ => (I 53 3)), (54, none, (I 54)), (55, none, (I 55)), (56, none, (I 56)), (57, none, (I 57))]) (K' := [(53, some 2, fun _ => (J 53 2))]) zco_133 rfl rfl rfl rfl rfl rfl rfl rfl ?_
    refine g_aload_n (pc' := 6)  hc rfl rfl rfl rfl ?_
    refine g_iload_n (pc' := 7)  hc rfl rfl rfl ?_
    refine z_virt (as := [.int a2]) (a := 0) (r := []) hc rfl rfl rfl rfl sh_0 rfl zco_133 rfl rfl rfl ?_
    refine ok_X11_checkFigure_0_p (zdp hd rfl) (zwp_mono (zwp_bind h) ?_)
    rintro (⟨⟩ | E2) h
    · refine z_po (pc' := 10) (st' := []) (v := none) (L' := [(14, none, (I 14)), (17, none, (I 17)), (52, none, (I 52)), (53, some 0, fun _ => (I 53 0)), (53, some 1, fun _ => (I 53 1)), (53, some 3, fun _ => (I 53 3)), (54, none, (I 54)), (55, none, (I 55)), (56, none, (I 56)), (57, none, (I 57))]) (K' := [(53, some 2, fun _ => (J 53 2))]) zco_133 rfl rfl rfl rfl rfl rfl rfl rfl ?_
      refine g_iload_n (pc' := 11)  hc rfl rfl rfl ?_
      refine g_iconst (pc' := 12) (v := (1 : Int32)) hc rfl zki_1 rfl ?_
      refine g_bipush (pc' := 14) (v := (100 : Int32)) hc rfl zkb_100 rfl ?_
      refine z_stat (as := [.int a3, .int (1 : Int32), .int (100 : Int32)]) (r := []) hc rfl rfl rfl rfl zco_136 rfl rfl rfl ?_
      refine ok_X11_checkHours (zdp hd rfl) (zwp_mono (zwp_bind h) ?_)
      rintro (⟨⟩ | E3) h
      · refine z_po (pc' := 17) (st' := []) (v := none) (L' := [(14, none, (I 14)), (17, none, (I 17)), (52, none, (I 52)), (53, some 0, fun _ => (I 53 0)), (53, some 1, fun _ => (I 53 1)), (53, some 3, fun _ => (I 53 3)), (54, none, (I 54)), (55, none, (I 55)), (56, none, (I 56)), (57, none, (I 57))]) (K' := [(53, some 2, fun _ => (J 53 2))]) zco_136 rfl rfl rfl rfl rfl rfl rfl rfl ?_
        refine g_aload_n (pc' := 18)  hc rfl rfl rfl rfl ?_
        refine g_iconst (pc' := 19) (v := (0 : Int32)) hc rfl zki_0 rfl ?_
        refine z_virt (as := [.int (0 : Int32)]) (a := 0) (r := []) hc rfl rfl rfl rfl sh_0 rfl zco_139 rfl rfl rfl ?_
        refine ok_X11_foresee_0_p (zdp hd rfl) (zwp_mono (zwp_bind h) ?_)
        rintro ⟨o4, o5, o6, o7, o8, o9, o10, o11, o12, o13, o14⟩ h
        refine z_po (pc' := 22) (st' := []) (v := none) (L' := [(14, none, o13), (17, none, o14), (52, none, o12), (53, some 0, fun _ => o7), (53, some 1, fun _ => o9), (53, some 3, fun _ => o5), (54, none, o4), (55, none, o10), (56, none, o6), (57, none, o8)]) (K' := [(53, some 2, fun _ => o11)]) zco_139 rfl rfl rfl rfl rfl rfl rfl rfl ?_
        refine g_iconst (pc' := 23) (v := (0 : Int32)) hc rfl zki_0 rfl ?_
        refine g_istore (pc' := 25) (ls1 := [some (.ref 0), some (.int a1), some (.int a2), some (.int a3), some (.int (0 : Int32)), none]) hc rfl (zlt rfl) rfl rfl ?_
        refine g_iconst (pc' := 26) (v := (0 : Int32)) hc rfl zki_0 rfl ?_
        refine g_istore (pc' := 28) (ls1 := [some (.ref 0), some (.int a1), some (.int a2), some (.int a3), some (.int (0 : Int32)), some (.int (0 : Int32))]) hc rfl (zlt rfl) rfl rfl ?_
        refine zjn (G := (fun (g : Int32 × (Nat → Int32) × (Nat → Int32) × Int32 × (Nat → Int32) × (Nat → Int32) × (Nat → Int32) × (Nat → Int32)) => match g with | (y24, y26, y27, y28, y29, y30, y31, y32) => ∀ z25 : Option Value, znl z25 = true → pm_ev C_X11_together (d + 1) (pm_call M cost zext d) cost (false, false) 108 1 6 Q 68 [some (.ref 0), some (.int a1), some (.int a2), some (.int a3), some (.int y24), z25] [] 0 0 (zS 7 19 I [(14, none, y31), (17, none, y32), (52, none, y30), (53, some 0, fun _ => y28), (53, some 1, fun _ => o9), (53, some 3, fun _ => o5), (54, none, y26), (55, none, y29), (56, none, y27), (57, none, o8)] J [(53, some 2, fun _ => o11)]))) (zwp_bind h) ?_ (fun h => ?_)
        · rintro ⟨y24, y26, y27, y28, y29, y30, y31, y32⟩ h z25 hz25
          refine g_iload (pc' := 70)  hc rfl rfl rfl ?_
          replace h := zws h
          exact g_ireturn hc rfl rfl rfl (fun _ => ⟨rfl, rfl⟩) h
        refine zitr_ev (G := (fun (g : Int32 × Int32 × (Nat → Int32) × (Nat → Int32) × Int32 × (Nat → Int32) × (Nat → Int32) × (Nat → Int32) × (Nat → Int32)) => match g with | (x15, x16, x17, x18, x19, x20, x21, x22, x23) => pm_ev C_X11_together (d + 1) (pm_call M cost zext d) cost (false, false) 108 1 6 Q 28 [some (.ref 0), some (.int a1), some (.int a2), some (.int a3), some (.int x15), some (.int x16)] [] 0 0 (zS 7 19 I [(14, none, x22), (17, none, x23), (52, none, x21), (53, some 0, fun _ => x19), (53, some 1, fun _ => o9), (53, some 3, fun _ => o5), (54, none, x17), (55, none, x20), (56, none, x18), (57, none, o8)] J [(53, some 2, fun _ => o11)]))) ?_ zFU ((0 : Int32), (0 : Int32), o4, o6, o7, o10, o12, o13, o14) h
        rintro ⟨x15, x16, x17, x18, x19, x20, x21, x22, x23⟩ h
        refine g_iload (pc' := 30)  hc rfl rfl rfl ?_
        refine g_iload_n (pc' := 31)  hc rfl rfl rfl ?_
        refine g_icmp_ge (pc' := 34) hc rfl rfl (fun hx => ?_) (fun hx => ?_)
        · replace h := zwp_t h hx
          replace h := zwp_r h
          exact h (some (.int x16)) rfl
        · replace h := zwp_f h hx
          refine g_aload_n (pc' := 35)  hc rfl rfl rfl rfl ?_
          refine z_virt (as := []) (a := 0) (r := []) hc rfl rfl rfl rfl sh_0 rfl zco_140 rfl rfl rfl ?_
          refine ok_X11_passFuture_0_p (zdp hd rfl) (zwp_mono (zwp_bind h) ?_)
          rintro ⟨o33, o34, o35, o36, o37, o38, o39⟩ h
          refine z_po (pc' := 38) (st' := []) (v := none) (L' := [(14, none, o38), (17, none, o39), (52, none, o37), (53, some 0, fun _ => o35), (53, some 1, fun _ => o9), (53, some 3, fun _ => o5), (54, none, o33), (55, none, o36), (56, none, o34), (57, none, o8)]) (K' := [(53, some 2, fun _ => o11)]) zco_140 rfl rfl rfl rfl rfl rfl rfl rfl ?_
          refine g_aload_n (pc' := 39)  hc rfl rfl rfl rfl ?_
          refine z_getR (pc' := 42)  hc rfl rfl rfl sh_0 rfl rfl ?_
          refine z_getR (pc' := 45)  hc rfl rfl rfl sh_53 rfl rfl ?_
          refine g_iload_n (pc' := 46)  hc rfl rfl rfl ?_
          have hb := (zwp_bnd h).1
          replace h := (zwp_bnd h).2
          refine z_iaload (pc' := 47) (v := (o33 a1.toNatClampNeg)) hc rfl rfl sh_54 hb rfl rfl ?_
          refine g_aload_n (pc' := 48)  hc rfl rfl rfl rfl ?_
          refine z_getR (pc' := 51)  hc rfl rfl rfl sh_0 rfl rfl ?_
          refine z_getR (pc' := 54)  hc rfl rfl rfl sh_53 rfl rfl ?_
          refine g_iload_n (pc' := 55)  hc rfl rfl rfl ?_
          have hb := (zwp_bnd h).1
          replace h := (zwp_bnd h).2
          refine z_iaload (pc' := 56) (v := (o33 a2.toNatClampNeg)) hc rfl rfl sh_54 hb rfl rfl ?_
          refine g_icmp_ne (pc' := 59) hc rfl rfl (fun hx => ?_) (fun hx => ?_)
          · replace h := zwp_f h hx
            refine g_iinc (pc' := 65) (ls1 := [some (.ref 0), some (.int a1), some (.int a2), some (.int a3), some (.int x15), some (.int (x16 + (1 : Int32)))]) hc rfl rfl zki_1 (zlt rfl) rfl rfl ?_
            refine g_goto hc rfl ?_
            replace h := zwp_l h
            exact h
          · replace h := zwp_t h hx
            refine g_iinc (pc' := 62) (ls1 := [some (.ref 0), some (.int a1), some (.int a2), some (.int a3), some (.int (x15 + (1 : Int32))), some (.int x16)]) hc rfl rfl zki_1 (zlt rfl) rfl rfl ?_
            refine g_iinc (pc' := 65) (ls1 := [some (.ref 0), some (.int a1), some (.int a2), some (.int a3), some (.int (x15 + (1 : Int32))), some (.int (x16 + (1 : Int32)))]) hc rfl rfl zki_1 (zlt rfl) rfl rfl ?_
            refine g_goto hc rfl ?_
            replace h := zwp_l h
            exact h
      · replace h := zws h
        exact z_pox (L' := [(14, none, (I 14)), (17, none, (I 17)), (52, none, (I 52)), (53, some 0, fun _ => (I 53 0)), (53, some 1, fun _ => (I 53 1)), (53, some 3, fun _ => (I 53 3)), (54, none, (I 54)), (55, none, (I 55)), (56, none, (I 56)), (57, none, (I 57))]) (K' := [(53, some 2, fun _ => (J 53 2))]) rfl rfl rfl rfl rfl rfl rfl h
    · replace h := zws h
      exact z_pox (L' := [(14, none, (I 14)), (17, none, (I 17)), (52, none, (I 52)), (53, some 0, fun _ => (I 53 0)), (53, some 1, fun _ => (I 53 1)), (53, some 3, fun _ => (I 53 3)), (54, none, (I 54)), (55, none, (I 55)), (56, none, (I 56)), (57, none, (I 57))]) (K' := [(53, some 2, fun _ => (J 53 2))]) rfl rfl rfl rfl rfl rfl rfl h
  · replace h := zws h
    exact z_pox (L' := [(14, none, (I 14)), (17, none, (I 17)), (52, none, (I 52)), (53, some 0, fun _ => (I 53 0)), (53, some 1, fun _ => (I 53 1)), (53, some 3, fun _ => (I 53 3)), (54, none, (I 54)), (55, none, (I 55)), (56, none, (I 56)), (57, none, (I 57))]) (K' := [(53, some 2, fun _ => (J 53 2))]) rfl rfl rfl rfl rfl rfl rfl h
set_option maxRecDepth 4000 in
theorem ok_L_together_0_107_p {I : pI} {J : pJ} {a1 : Int32} {a2 : Int32} {a3 : Int32} {Q : pQ} {d : Nat} (hd : 9 ≤ d) (h : zwp (f_L_together a1 a2 a3 1 (J 107) (I 54) (I 53 3) (I 56) (I 53 0) (I 57) (I 53 1) (I 55) (J 53 2) (I 52) (I 32) (I 31 3) (I 34) (I 31 0) (I 35) (I 31 1) (I 33) (J 31 2) (I 7 12) (I 7 3) (I 15) (I 13 2) (I 14) (I 7 1) (I 18) (I 16 2) (I 17) (I 12) (I 7 9) (I 9) (I 10) (I 7 0)) (fun w => match w with | (r, o0, o1, o2, o3, o4, o5, o6, o7, o8, o9, o10, o11) => Q (.inl (some (.int r))) (zS 7 19 I [(14, none, o10), (17, none, o11), (52, none, o9), (53, some 0, fun _ => o4), (53, some 1, fun _ => o6), (53, some 3, fun _ => o2), (54, none, o1), (55, none, o7), (56, none, o3), (57, none, o5)] J [(53, some 2, fun _ => o8), (107, none, o0)]))) : pm_call M cost zext d 297 [.ref 0, .int a1, .int a2, .int a3, .ref 107] (pm_st 108 (shp 7 19) I J) Q := by
  obtain ⟨d, rfl⟩ := zd1 hd rfl
  have hc := pm_call_m (M := M) (cost := cost) zext_m d
  refine z_in (L := [(14, none, (I 14)), (17, none, (I 17)), (52, none, (I 52)), (53, some 0, fun _ => (I 53 0)), (53, some 1, fun _ => (I 53 1)), (53, some 3, fun _ => (I 53 3)), (54, none, (I 54)), (55, none, (I 55)), (56, none, (I 56)), (57, none, (I 57))]) (K := [(53, some 2, fun _ => (J 53 2)), (107, none, (J 107))]) (ls := [some (.ref 0), some (.int a1), some (.int a2), some (.int a3), some (.ref 107), none]) zmt_297 zco_297 rfl rfl (zid_a (zid_a (zid_a (zid_s (zid_s (zid_s (zid_a (zid_a (zid_a (zid_a zid_n)))))))))) (zid_s (zid_a zid_n)) ?_
  delta f_L_together at h
  refine g_aload (pc' := 2)  hc rfl rfl rfl rfl ?_
  refine g_iconst (pc' := 3) (v := (0 : Int32)) hc rfl zki_0 rfl ?_
  refine g_aload_n (pc' := 4)  hc rfl rfl rfl rfl ?_
  refine g_iload_n (pc' := 5)  hc rfl rfl rfl ?_
  refine g_iload_n (pc' := 6)  hc rfl rfl rfl ?_
  refine g_iload_n (pc' := 7)  hc rfl rfl rfl ?_
  refine z_virt (as := [.int a1, .int a2, .int a3]) (a := 0) (r := [.int (0 : Int32), .ref 107]) hc rfl rfl rfl rfl sh_0 rfl zco_128 rfl rfl rfl ?_
  refine ok_X11_together_0_p (zdp hd rfl) (zwp_mono (zwp_bind h) ?_)
  rintro ⟨(r12 | E13), o1, o2, o3, o4, o5, o6, o7, o8, o9, o10, o11⟩ h
  · refine z_po (pc' := 10) (st' := [.int r12, .int (0 : Int32), .ref 107]) (v := (some (.int r12))) (L' := [(14, none, o10), (17, none, o11), (52, none, o9), (53, some 0, fun _ => o4), (53, some 1, fun _ => o6), (53, some 3, fun _ => o2), (54, none, o1), (55, none, o7), (56, none, o3), (57, none, o5)]) (K' := [(53, some 2, fun _ => o8), (107, none, (J 107))]) zco_128 rfl rfl rfl rfl rfl rfl rfl rfl ?_
    refine g_i2l (pc' := 11)  hc rfl rfl ?_
    have hb := (zwp_bnd h).1
    replace h := (zwp_bnd h).2
    refine z_lastore (pc' := 12) (g := (J 107)) (K' := [(53, some 2, fun _ => o8), (107, none, (vp_updL ((J 107)) (0 : Int32).toNatClampNeg r12.toInt64))]) hc rfl rfl sh_107 hb rfl rfl rfl rfl ?_
    refine g_goto hc rfl ?_
    refine g_iconst (pc' := 24) (v := (0 : Int32)) hc rfl zki_0 rfl ?_
    replace h := zws h
    exact g_ireturn hc rfl rfl rfl (fun _ => ⟨rfl, rfl⟩) h
  · by_cases hE : E13 = x_N
    · replace h := zwp_t h hE
      replace h := zws h
      exact z_poh (L' := [(14, none, o10), (17, none, o11), (52, none, o9), (53, some 0, fun _ => o4), (53, some 1, fun _ => o6), (53, some 3, fun _ => o2), (54, none, o1), (55, none, o7), (56, none, o3), (57, none, o5)]) (K' := [(53, some 2, fun _ => o8), (107, none, (J 107))]) (zhd2a (e := 12) (pc := 7) rfl hE) rfl rfl rfl rfl rfl rfl rfl rfl h
    replace h := zwp_f h hE
    have hN := hE
    by_cases hE : E13 = x_I
    · replace h := zwp_t h hE
      replace h := zws h
      exact z_poh (L' := [(14, none, o10), (17, none, o11), (52, none, o9), (53, some 0, fun _ => o4), (53, some 1, fun _ => o6), (53, some 3, fun _ => o2), (54, none, o1), (55, none, o7), (56, none, o3), (57, none, o5)]) (K' := [(53, some 2, fun _ => o8), (107, none, (J 107))]) (zhd2b (e := 12) (pc := 7) rfl hN hE) rfl rfl rfl rfl rfl rfl rfl rfl h
    replace h := zwp_f h hE
    exact (zwn h).elim
set_option maxRecDepth 4000 in
theorem ok_X11_quiet_0_p {I : pI} {J : pJ} {a1 : Int32} {a2 : Int32} {Q : pQ} {d : Nat} (hd : 8 ≤ d) (h : zwp (f_X11_quiet a1 a2 (I 54) (I 53 3) (I 56) (I 53 0) (I 57) (I 53 1) (I 55) (J 53 2) (I 52) (I 32) (I 31 3) (I 34) (I 31 0) (I 35) (I 31 1) (I 33) (J 31 2) (I 7 12) (I 7 3) (I 15) (I 13 2) (I 14) (I 7 1) (I 18) (I 16 2) (I 17) (I 12) (I 7 9) (I 9) (I 10) (I 7 0)) (fun w => match w with | (.inl r, o0, o1, o2, o3, o4, o5, o6, o7, o8, o9, o10) => Q (.inl (some (.int r))) (zS 7 19 I [(14, none, o9), (17, none, o10), (52, none, o8), (53, some 0, fun _ => o3), (53, some 1, fun _ => o5), (53, some 3, fun _ => o1), (54, none, o0), (55, none, o6), (56, none, o2), (57, none, o4)] J [(53, some 2, fun _ => o7)]) | (.inr E, o0, o1, o2, o3, o4, o5, o6, o7, o8, o9, o10) => Q (.inr E) (zS 7 19 I [(14, none, o9), (17, none, o10), (52, none, o8), (53, some 0, fun _ => o3), (53, some 1, fun _ => o5), (53, some 3, fun _ => o1), (54, none, o0), (55, none, o6), (56, none, o2), (57, none, o4)] J [(53, some 2, fun _ => o7)]))) : pm_call M cost zext d 129 [.ref 0, .int a1, .int a2] (pm_st 108 (shp 7 19) I J) Q := by
  obtain ⟨d, rfl⟩ := zd1 hd rfl
  have hc := pm_call_m (M := M) (cost := cost) zext_m d
  refine z_in (L := [(14, none, (I 14)), (17, none, (I 17)), (52, none, (I 52)), (53, some 0, fun _ => (I 53 0)), (53, some 1, fun _ => (I 53 1)), (53, some 3, fun _ => (I 53 3)), (54, none, (I 54)), (55, none, (I 55)), (56, none, (I 56)), (57, none, (I 57))]) (K := [(53, some 2, fun _ => (J 53 2))]) (ls := [some (.ref 0), some (.int a1), some (.int a2), none, none]) zmt_129 zco_129 rfl rfl (zid_a (zid_a (zid_a (zid_s (zid_s (zid_s (zid_a (zid_a (zid_a (zid_a zid_n)))))))))) (zid_s zid_n) ?_
  delta f_X11_quiet at h
  refine g_aload_n (pc' := 1)  hc rfl rfl rfl rfl ?_
  refine g_iload_n (pc' := 2)  hc rfl rfl rfl ?_
  refine z_virt (as := [.int a1]) (a := 0) (r := []) hc rfl rfl rfl rfl sh_0 rfl zco_134 rfl rfl rfl ?_
  refine ok_X11_checkCell_0_p (zdp hd rfl) (zwp_mono (zwp_bind h) ?_)
  rintro (⟨⟩ | E1) h
  · refine z_po (pc' := 5) (st' := []) (v := none) (L' := [(14, none, (I 14)), (17, none, (I 17)), (52, none, (I 52)), (53, some 0, fun _ => (I 53 0)), (53, some 1, fun _ => (I 53 1)), (53, some 3, fun _ => (I 53 3)), (54, none, (I 54)), (55, none, (I 55)), (56, none, (I 56)), (57, none, (I 57))]) (K' := [(53, some 2, fun _ => (J 53 2))]) zco_134 rfl rfl rfl rfl rfl rfl rfl rfl ?_
    refine g_iload_n (pc' := 6)  hc rfl rfl rfl ?_
    refine g_iconst (pc' := 7) (v := (1 : Int32)) hc rfl zki_1 rfl ?_
    refine g_bipush (pc' := 9) (v := (100 : Int32)) hc rfl zkb_100 rfl ?_
    refine z_stat (as := [.int a2, .int (1 : Int32), .int (100 : Int32)]) (r := []) hc rfl rfl rfl rfl zco_136 rfl rfl rfl ?_
    refine ok_X11_checkHours (zdp hd rfl) (zwp_mono (zwp_bind h) ?_)
    rintro (⟨⟩ | E2) h
    · refine z_po (pc' := 12) (st' := []) (v := none) (L' := [(14, none, (I 14)), (17, none, (I 17)), (52, none, (I 52)), (53, some 0, fun _ => (I 53 0)), (53, some 1, fun _ => (I 53 1)), (53, some 3, fun _ => (I 53 3)), (54, none, (I 54)), (55, none, (I 55)), (56, none, (I 56)), (57, none, (I 57))]) (K' := [(53, some 2, fun _ => (J 53 2))]) zco_136 rfl rfl rfl rfl rfl rfl rfl rfl ?_
      refine g_aload_n (pc' := 13)  hc rfl rfl rfl rfl ?_
      refine g_iconst (pc' := 14) (v := (0 : Int32)) hc rfl zki_0 rfl ?_
      refine z_virt (as := [.int (0 : Int32)]) (a := 0) (r := []) hc rfl rfl rfl rfl sh_0 rfl zco_139 rfl rfl rfl ?_
      refine ok_X11_foresee_0_p (zdp hd rfl) (zwp_mono (zwp_bind h) ?_)
      rintro ⟨o3, o4, o5, o6, o7, o8, o9, o10, o11, o12, o13⟩ h
      refine z_po (pc' := 17) (st' := []) (v := none) (L' := [(14, none, o12), (17, none, o13), (52, none, o11), (53, some 0, fun _ => o6), (53, some 1, fun _ => o8), (53, some 3, fun _ => o4), (54, none, o3), (55, none, o9), (56, none, o5), (57, none, o7)]) (K' := [(53, some 2, fun _ => o10)]) zco_139 rfl rfl rfl rfl rfl rfl rfl rfl ?_
      refine g_iconst (pc' := 18) (v := (0 : Int32)) hc rfl zki_0 rfl ?_
      refine g_istore_n (pc' := 19) (ls1 := [some (.ref 0), some (.int a1), some (.int a2), some (.int (0 : Int32)), none]) hc rfl (zlt rfl) rfl rfl ?_
      refine g_iconst (pc' := 20) (v := (0 : Int32)) hc rfl zki_0 rfl ?_
      refine g_istore (pc' := 22) (ls1 := [some (.ref 0), some (.int a1), some (.int a2), some (.int (0 : Int32)), some (.int (0 : Int32))]) hc rfl (zlt rfl) rfl rfl ?_
      refine zjn (G := (fun (g : Int32 × (Nat → Int32) × (Nat → Int32) × Int32 × (Nat → Int32) × (Nat → Int32) × (Nat → Int32) × (Nat → Int32)) => match g with | (y23, y25, y26, y27, y28, y29, y30, y31) => ∀ z24 : Option Value, znl z24 = true → pm_ev C_X11_quiet (d + 1) (pm_call M cost zext d) cost (false, false) 108 1 6 Q 52 [some (.ref 0), some (.int a1), some (.int a2), some (.int y23), z24] [] 0 0 (zS 7 19 I [(14, none, y30), (17, none, y31), (52, none, y29), (53, some 0, fun _ => y27), (53, some 1, fun _ => o8), (53, some 3, fun _ => o4), (54, none, y25), (55, none, y28), (56, none, y26), (57, none, o7)] J [(53, some 2, fun _ => o10)]))) (zwp_bind h) ?_ (fun h => ?_)
      · rintro ⟨y23, y25, y26, y27, y28, y29, y30, y31⟩ h z24 hz24
        refine g_iload_n (pc' := 53)  hc rfl rfl rfl ?_
        replace h := zws h
        exact g_ireturn hc rfl rfl rfl (fun _ => ⟨rfl, rfl⟩) h
      refine zitr_ev (G := (fun (g : Int32 × Int32 × (Nat → Int32) × (Nat → Int32) × Int32 × (Nat → Int32) × (Nat → Int32) × (Nat → Int32) × (Nat → Int32)) => match g with | (x14, x15, x16, x17, x18, x19, x20, x21, x22) => pm_ev C_X11_quiet (d + 1) (pm_call M cost zext d) cost (false, false) 108 1 6 Q 22 [some (.ref 0), some (.int a1), some (.int a2), some (.int x14), some (.int x15)] [] 0 0 (zS 7 19 I [(14, none, x21), (17, none, x22), (52, none, x20), (53, some 0, fun _ => x18), (53, some 1, fun _ => o8), (53, some 3, fun _ => o4), (54, none, x16), (55, none, x19), (56, none, x17), (57, none, o7)] J [(53, some 2, fun _ => o10)]))) ?_ zFU ((0 : Int32), (0 : Int32), o3, o5, o6, o9, o11, o12, o13) h
      rintro ⟨x14, x15, x16, x17, x18, x19, x20, x21, x22⟩ h
      refine g_iload (pc' := 24)  hc rfl rfl rfl ?_
      refine g_iload_n (pc' := 25)  hc rfl rfl rfl ?_
      refine g_icmp_ge (pc' := 28) hc rfl rfl (fun hx => ?_) (fun hx => ?_)
      · replace h := zwp_t h hx
        replace h := zwp_r h
        exact h (some (.int x15)) rfl
      · replace h := zwp_f h hx
        refine g_aload_n (pc' := 29)  hc rfl rfl rfl rfl ?_
        refine z_virt (as := []) (a := 0) (r := []) hc rfl rfl rfl rfl sh_0 rfl zco_140 rfl rfl rfl ?_
        refine ok_X11_passFuture_0_p (zdp hd rfl) (zwp_mono (zwp_bind h) ?_)
        rintro ⟨o32, o33, o34, o35, o36, o37, o38⟩ h
        refine z_po (pc' := 32) (st' := []) (v := none) (L' := [(14, none, o37), (17, none, o38), (52, none, o36), (53, some 0, fun _ => o34), (53, some 1, fun _ => o8), (53, some 3, fun _ => o4), (54, none, o32), (55, none, o35), (56, none, o33), (57, none, o7)]) (K' := [(53, some 2, fun _ => o10)]) zco_140 rfl rfl rfl rfl rfl rfl rfl rfl ?_
        refine g_aload_n (pc' := 33)  hc rfl rfl rfl rfl ?_
        refine z_getR (pc' := 36)  hc rfl rfl rfl sh_0 rfl rfl ?_
        refine g_iload_n (pc' := 37)  hc rfl rfl rfl ?_
        refine z_virt (as := [.int a1]) (a := 53) (r := []) hc rfl rfl rfl rfl sh_53 rfl zco_72 rfl rfl rfl ?_
        refine ok_X8_figuresAt_53 (zdp hd rfl) (zwp_mono (zwp_bind h) ?_)
        rintro r39 h
        refine z_po (pc' := 40) (st' := [.int r39]) (v := (some (.int r39))) (L' := [(14, none, o37), (17, none, o38), (52, none, o36), (53, some 0, fun _ => o34), (53, some 1, fun _ => o8), (53, some 3, fun _ => o4), (54, none, o32), (55, none, o35), (56, none, o33), (57, none, o7)]) (K' := [(53, some 2, fun _ => o10)]) zco_72 rfl rfl rfl rfl rfl rfl rfl rfl ?_
        refine g_if_ne (pc' := 43) hc rfl rfl (fun hx => ?_) (fun hx => ?_)
        · replace h := zwp_f h hx
          refine g_iinc (pc' := 49) (ls1 := [some (.ref 0), some (.int a1), some (.int a2), some (.int x14), some (.int (x15 + (1 : Int32)))]) hc rfl rfl zki_1 (zlt rfl) rfl rfl ?_
          refine g_goto hc rfl ?_
          replace h := zwp_l h
          exact h
        · replace h := zwp_t h hx
          refine g_iinc (pc' := 46) (ls1 := [some (.ref 0), some (.int a1), some (.int a2), some (.int (x14 + (1 : Int32))), some (.int x15)]) hc rfl rfl zki_1 (zlt rfl) rfl rfl ?_
          refine g_iinc (pc' := 49) (ls1 := [some (.ref 0), some (.int a1), some (.int a2), some (.int (x14 + (1 : Int32))), some (.int (x15 + (1 : Int32)))]) hc rfl rfl zki_1 (zlt rfl) rfl rfl ?_
          refine g_goto hc rfl ?_
          replace h := zwp_l h
          exact h
    · replace h := zws h
      exact z_pox (L' := [(14, none, (I 14)), (17, none, (I 17)), (52, none, (I 52)), (53, some 0, fun _ => (I 53 0)), (53, some 1, fun _ => (I 53 1)), (53, some 3, fun _ => (I 53 3)), (54, none, (I 54)), (55, none, (I 55)), (56, none, (I 56)), (57, none, (I 57))]) (K' := [(53, some 2, fun _ => (J 53 2))]) rfl rfl rfl rfl rfl rfl rfl h
  · replace h := zws h
    exact z_pox (L' := [(14, none, (I 14)), (17, none, (I 17)), (52, none, (I 52)), (53, some 0, fun _ => (I 53 0)), (53, some 1, fun _ => (I 53 1)), (53, some 3, fun _ => (I 53 3)), (54, none, (I 54)), (55, none, (I 55)), (56, none, (I 56)), (57, none, (I 57))]) (K' := [(53, some 2, fun _ => (J 53 2))]) rfl rfl rfl rfl rfl rfl rfl h
set_option maxRecDepth 4000 in
theorem ok_L_quiet_0_107_p {I : pI} {J : pJ} {a1 : Int32} {a2 : Int32} {Q : pQ} {d : Nat} (hd : 9 ≤ d) (h : zwp (f_L_quiet a1 a2 1 (J 107) (I 54) (I 53 3) (I 56) (I 53 0) (I 57) (I 53 1) (I 55) (J 53 2) (I 52) (I 32) (I 31 3) (I 34) (I 31 0) (I 35) (I 31 1) (I 33) (J 31 2) (I 7 12) (I 7 3) (I 15) (I 13 2) (I 14) (I 7 1) (I 18) (I 16 2) (I 17) (I 12) (I 7 9) (I 9) (I 10) (I 7 0)) (fun w => match w with | (r, o0, o1, o2, o3, o4, o5, o6, o7, o8, o9, o10, o11) => Q (.inl (some (.int r))) (zS 7 19 I [(14, none, o10), (17, none, o11), (52, none, o9), (53, some 0, fun _ => o4), (53, some 1, fun _ => o6), (53, some 3, fun _ => o2), (54, none, o1), (55, none, o7), (56, none, o3), (57, none, o5)] J [(53, some 2, fun _ => o8), (107, none, o0)]))) : pm_call M cost zext d 298 [.ref 0, .int a1, .int a2, .ref 107] (pm_st 108 (shp 7 19) I J) Q := by
  obtain ⟨d, rfl⟩ := zd1 hd rfl
  have hc := pm_call_m (M := M) (cost := cost) zext_m d
  refine z_in (L := [(14, none, (I 14)), (17, none, (I 17)), (52, none, (I 52)), (53, some 0, fun _ => (I 53 0)), (53, some 1, fun _ => (I 53 1)), (53, some 3, fun _ => (I 53 3)), (54, none, (I 54)), (55, none, (I 55)), (56, none, (I 56)), (57, none, (I 57))]) (K := [(53, some 2, fun _ => (J 53 2)), (107, none, (J 107))]) (ls := [some (.ref 0), some (.int a1), some (.int a2), some (.ref 107), none]) zmt_298 zco_298 rfl rfl (zid_a (zid_a (zid_a (zid_s (zid_s (zid_s (zid_a (zid_a (zid_a (zid_a zid_n)))))))))) (zid_s (zid_a zid_n)) ?_
  delta f_L_quiet at h
  refine g_aload_n (pc' := 1)  hc rfl rfl rfl rfl ?_
  refine g_iconst (pc' := 2) (v := (0 : Int32)) hc rfl zki_0 rfl ?_
  refine g_aload_n (pc' := 3)  hc rfl rfl rfl rfl ?_
  refine g_iload_n (pc' := 4)  hc rfl rfl rfl ?_
  refine g_iload_n (pc' := 5)  hc rfl rfl rfl ?_
  refine z_virt (as := [.int a1, .int a2]) (a := 0) (r := [.int (0 : Int32), .ref 107]) hc rfl rfl rfl rfl sh_0 rfl zco_129 rfl rfl rfl ?_
  refine ok_X11_quiet_0_p (zdp hd rfl) (zwp_mono (zwp_bind h) ?_)
  rintro ⟨(r12 | E13), o1, o2, o3, o4, o5, o6, o7, o8, o9, o10, o11⟩ h
  · refine z_po (pc' := 8) (st' := [.int r12, .int (0 : Int32), .ref 107]) (v := (some (.int r12))) (L' := [(14, none, o10), (17, none, o11), (52, none, o9), (53, some 0, fun _ => o4), (53, some 1, fun _ => o6), (53, some 3, fun _ => o2), (54, none, o1), (55, none, o7), (56, none, o3), (57, none, o5)]) (K' := [(53, some 2, fun _ => o8), (107, none, (J 107))]) zco_129 rfl rfl rfl rfl rfl rfl rfl rfl ?_
    refine g_i2l (pc' := 9)  hc rfl rfl ?_
    have hb := (zwp_bnd h).1
    replace h := (zwp_bnd h).2
    refine z_lastore (pc' := 10) (g := (J 107)) (K' := [(53, some 2, fun _ => o8), (107, none, (vp_updL ((J 107)) (0 : Int32).toNatClampNeg r12.toInt64))]) hc rfl rfl sh_107 hb rfl rfl rfl rfl ?_
    refine g_goto hc rfl ?_
    refine g_iconst (pc' := 22) (v := (0 : Int32)) hc rfl zki_0 rfl ?_
    replace h := zws h
    exact g_ireturn hc rfl rfl rfl (fun _ => ⟨rfl, rfl⟩) h
  · by_cases hE : E13 = x_N
    · replace h := zwp_t h hE
      replace h := zws h
      exact z_poh (L' := [(14, none, o10), (17, none, o11), (52, none, o9), (53, some 0, fun _ => o4), (53, some 1, fun _ => o6), (53, some 3, fun _ => o2), (54, none, o1), (55, none, o7), (56, none, o3), (57, none, o5)]) (K' := [(53, some 2, fun _ => o8), (107, none, (J 107))]) (zhd2a (e := 10) (pc := 5) rfl hE) rfl rfl rfl rfl rfl rfl rfl rfl h
    replace h := zwp_f h hE
    have hN := hE
    by_cases hE : E13 = x_I
    · replace h := zwp_t h hE
      replace h := zws h
      exact z_poh (L' := [(14, none, o10), (17, none, o11), (52, none, o9), (53, some 0, fun _ => o4), (53, some 1, fun _ => o6), (53, some 3, fun _ => o2), (54, none, o1), (55, none, o7), (56, none, o3), (57, none, o5)]) (K' := [(53, some 2, fun _ => o8), (107, none, (J 107))]) (zhd2b (e := 10) (pc := 5) rfl hN hE) rfl rfl rfl rfl rfl rfl rfl rfl h
    replace h := zwp_f h hE
    exact (zwn h).elim
set_option maxRecDepth 4000 in
theorem ok_X11_gone_0_p {I : pI} {J : pJ} {a1 : Int32} {a2 : Int32} {Q : pQ} {d : Nat} (hd : 8 ≤ d) (h : zwp (f_X11_gone a1 a2 (I 54) (I 53 3) (I 56) (I 53 0) (I 57) (I 53 1) (I 55) (J 53 2) (I 52) (I 32) (I 31 3) (I 34) (I 31 0) (I 35) (I 31 1) (I 33) (J 31 2) (I 7 12) (I 7 3) (I 15) (I 13 2) (I 14) (I 7 1) (I 18) (I 16 2) (I 17) (I 12) (I 7 9) (I 9) (I 10) (I 7 0)) (fun w => match w with | (.inl r, o0, o1, o2, o3, o4, o5, o6, o7, o8, o9, o10) => Q (.inl (some (.int r))) (zS 7 19 I [(14, none, o9), (17, none, o10), (52, none, o8), (53, some 0, fun _ => o3), (53, some 1, fun _ => o5), (53, some 3, fun _ => o1), (54, none, o0), (55, none, o6), (56, none, o2), (57, none, o4)] J [(53, some 2, fun _ => o7)]) | (.inr E, o0, o1, o2, o3, o4, o5, o6, o7, o8, o9, o10) => Q (.inr E) (zS 7 19 I [(14, none, o9), (17, none, o10), (52, none, o8), (53, some 0, fun _ => o3), (53, some 1, fun _ => o5), (53, some 3, fun _ => o1), (54, none, o0), (55, none, o6), (56, none, o2), (57, none, o4)] J [(53, some 2, fun _ => o7)]))) : pm_call M cost zext d 130 [.ref 0, .int a1, .int a2] (pm_st 108 (shp 7 19) I J) Q := by
  obtain ⟨d, rfl⟩ := zd1 hd rfl
  have hc := pm_call_m (M := M) (cost := cost) zext_m d
  refine z_in (L := [(14, none, (I 14)), (17, none, (I 17)), (52, none, (I 52)), (53, some 0, fun _ => (I 53 0)), (53, some 1, fun _ => (I 53 1)), (53, some 3, fun _ => (I 53 3)), (54, none, (I 54)), (55, none, (I 55)), (56, none, (I 56)), (57, none, (I 57))]) (K := [(53, some 2, fun _ => (J 53 2))]) (ls := [some (.ref 0), some (.int a1), some (.int a2), none, none, none]) zmt_130 zco_130 rfl rfl (zid_a (zid_a (zid_a (zid_s (zid_s (zid_s (zid_a (zid_a (zid_a (zid_a zid_n)))))))))) (zid_s zid_n) ?_
  delta f_X11_gone at h
  refine g_aload_n (pc' := 1)  hc rfl rfl rfl rfl ?_
  refine g_iload_n (pc' := 2)  hc rfl rfl rfl ?_
  refine z_virt (as := [.int a1]) (a := 0) (r := []) hc rfl rfl rfl rfl sh_0 rfl zco_133 rfl rfl rfl ?_
  refine ok_X11_checkFigure_0_p (zdp hd rfl) (zwp_mono (zwp_bind h) ?_)
  rintro (⟨⟩ | E1) h
  · refine z_po (pc' := 5) (st' := []) (v := none) (L' := [(14, none, (I 14)), (17, none, (I 17)), (52, none, (I 52)), (53, some 0, fun _ => (I 53 0)), (53, some 1, fun _ => (I 53 1)), (53, some 3, fun _ => (I 53 3)), (54, none, (I 54)), (55, none, (I 55)), (56, none, (I 56)), (57, none, (I 57))]) (K' := [(53, some 2, fun _ => (J 53 2))]) zco_133 rfl rfl rfl rfl rfl rfl rfl rfl ?_
    refine g_iload_n (pc' := 6)  hc rfl rfl rfl ?_
    refine g_iconst (pc' := 7) (v := (0 : Int32)) hc rfl zki_0 rfl ?_
    refine g_bipush (pc' := 9) (v := (100 : Int32)) hc rfl zkb_100 rfl ?_
    refine z_stat (as := [.int a2, .int (0 : Int32), .int (100 : Int32)]) (r := []) hc rfl rfl rfl rfl zco_136 rfl rfl rfl ?_
    refine ok_X11_checkHours (zdp hd rfl) (zwp_mono (zwp_bind h) ?_)
    rintro (⟨⟩ | E2) h
    · refine z_po (pc' := 12) (st' := []) (v := none) (L' := [(14, none, (I 14)), (17, none, (I 17)), (52, none, (I 52)), (53, some 0, fun _ => (I 53 0)), (53, some 1, fun _ => (I 53 1)), (53, some 3, fun _ => (I 53 3)), (54, none, (I 54)), (55, none, (I 55)), (56, none, (I 56)), (57, none, (I 57))]) (K' := [(53, some 2, fun _ => (J 53 2))]) zco_136 rfl rfl rfl rfl rfl rfl rfl rfl ?_
      refine g_aload_n (pc' := 13)  hc rfl rfl rfl rfl ?_
      refine g_iconst (pc' := 14) (v := (0 : Int32)) hc rfl zki_0 rfl ?_
      refine z_virt (as := [.int (0 : Int32)]) (a := 0) (r := []) hc rfl rfl rfl rfl sh_0 rfl zco_139 rfl rfl rfl ?_
      refine ok_X11_foresee_0_p (zdp hd rfl) (zwp_mono (zwp_bind h) ?_)
      rintro ⟨o3, o4, o5, o6, o7, o8, o9, o10, o11, o12, o13⟩ h
      refine z_po (pc' := 17) (st' := []) (v := none) (L' := [(14, none, o12), (17, none, o13), (52, none, o11), (53, some 0, fun _ => o6), (53, some 1, fun _ => o8), (53, some 3, fun _ => o4), (54, none, o3), (55, none, o9), (56, none, o5), (57, none, o7)]) (K' := [(53, some 2, fun _ => o10)]) zco_139 rfl rfl rfl rfl rfl rfl rfl rfl ?_
      refine g_iconst (pc' := 18) (v := (0 : Int32)) hc rfl zki_0 rfl ?_
      refine g_istore_n (pc' := 19) (ls1 := [some (.ref 0), some (.int a1), some (.int a2), some (.int (0 : Int32)), none, none]) hc rfl (zlt rfl) rfl rfl ?_
      refine g_iconst (pc' := 20) (v := (0 : Int32)) hc rfl zki_0 rfl ?_
      refine g_istore (pc' := 22) (ls1 := [some (.ref 0), some (.int a1), some (.int a2), some (.int (0 : Int32)), some (.int (0 : Int32)), none]) hc rfl (zlt rfl) rfl rfl ?_
      refine zjn (G := (fun (g : Int32 × (Nat → Int32) × (Nat → Int32) × Int32 × (Nat → Int32) × (Nat → Int32) × (Nat → Int32) × (Nat → Int32)) => match g with | (y24, y27, y28, y29, y30, y31, y32, y33) => ∀ z25 : Option Value, znl z25 = true → ∀ z26 : Option Value, znl z26 = true → pm_ev C_X11_gone (d + 1) (pm_call M cost zext d) cost (false, false) 108 1 6 Q 66 [some (.ref 0), some (.int a1), some (.int a2), some (.int y24), z25, z26] [] 0 0 (zS 7 19 I [(14, none, y32), (17, none, y33), (52, none, y31), (53, some 0, fun _ => y29), (53, some 1, fun _ => o8), (53, some 3, fun _ => o4), (54, none, y27), (55, none, y30), (56, none, y28), (57, none, o7)] J [(53, some 2, fun _ => o10)]))) (zwp_bind h) ?_ (fun h => ?_)
      · rintro ⟨y24, y27, y28, y29, y30, y31, y32, y33⟩ h z25 hz25 z26 hz26
        refine g_iload_n (pc' := 67)  hc rfl rfl rfl ?_
        replace h := zws h
        exact g_ireturn hc rfl rfl rfl (fun _ => ⟨rfl, rfl⟩) h
      refine zitr_ev (G := (fun (g : Int32 × Int32 × (Nat → Int32) × (Nat → Int32) × Int32 × (Nat → Int32) × (Nat → Int32) × (Nat → Int32) × (Nat → Int32)) => match g with | (x14, x15, x17, x18, x19, x20, x21, x22, x23) => ∀ z16 : Option Value, znl z16 = true → pm_ev C_X11_gone (d + 1) (pm_call M cost zext d) cost (false, false) 108 1 6 Q 22 [some (.ref 0), some (.int a1), some (.int a2), some (.int x14), some (.int x15), z16] [] 0 0 (zS 7 19 I [(14, none, x22), (17, none, x23), (52, none, x21), (53, some 0, fun _ => x19), (53, some 1, fun _ => o8), (53, some 3, fun _ => o4), (54, none, x17), (55, none, x20), (56, none, x18), (57, none, o7)] J [(53, some 2, fun _ => o10)]))) ?_ zFU ((0 : Int32), (0 : Int32), o3, o5, o6, o9, o11, o12, o13) h none rfl
      rintro ⟨x14, x15, x17, x18, x19, x20, x21, x22, x23⟩ h z16 hz16
      refine g_iload (pc' := 24)  hc rfl rfl rfl ?_
      refine g_iload_n (pc' := 25)  hc rfl rfl rfl ?_
      refine g_icmp_ge (pc' := 28) hc rfl rfl (fun hx => ?_) (fun hx => ?_)
      · replace h := zwp_t h hx
        replace h := zwp_r h
        exact h (some (.int x15)) rfl z16 hz16
      · replace h := zwp_f h hx
        refine g_aload_n (pc' := 29)  hc rfl rfl rfl rfl ?_
        refine z_getR (pc' := 32)  hc rfl rfl rfl sh_0 rfl rfl ?_
        refine z_getR (pc' := 35)  hc rfl rfl rfl sh_53 rfl rfl ?_
        refine g_iload_n (pc' := 36)  hc rfl rfl rfl ?_
        have hb := (zwp_bnd h).1
        replace h := (zwp_bnd h).2
        refine z_iaload (pc' := 37) (v := (x17 a1.toNatClampNeg)) hc rfl rfl sh_54 hb rfl rfl ?_
        refine g_istore (pc' := 39) (ls1 := [some (.ref 0), some (.int a1), some (.int a2), some (.int x14), some (.int x15), some (.int (x17 a1.toNatClampNeg))]) hc rfl (zlt rfl) rfl rfl ?_
        refine g_aload_n (pc' := 40)  hc rfl rfl rfl rfl ?_
        refine z_virt (as := []) (a := 0) (r := []) hc rfl rfl rfl rfl sh_0 rfl zco_140 rfl rfl rfl ?_
        refine ok_X11_passFuture_0_p (zdp hd rfl) (zwp_mono (zwp_bind h) ?_)
        rintro ⟨o34, o35, o36, o37, o38, o39, o40⟩ h
        refine z_po (pc' := 43) (st' := []) (v := none) (L' := [(14, none, o39), (17, none, o40), (52, none, o38), (53, some 0, fun _ => o36), (53, some 1, fun _ => o8), (53, some 3, fun _ => o4), (54, none, o34), (55, none, o37), (56, none, o35), (57, none, o7)]) (K' := [(53, some 2, fun _ => o10)]) zco_140 rfl rfl rfl rfl rfl rfl rfl rfl ?_
        refine g_aload_n (pc' := 44)  hc rfl rfl rfl rfl ?_
        refine z_getR (pc' := 47)  hc rfl rfl rfl sh_0 rfl rfl ?_
        refine z_getR (pc' := 50)  hc rfl rfl rfl sh_53 rfl rfl ?_
        refine g_iload_n (pc' := 51)  hc rfl rfl rfl ?_
        have hb := (zwp_bnd h).1
        replace h := (zwp_bnd h).2
        refine z_iaload (pc' := 52) (v := (o34 a1.toNatClampNeg)) hc rfl rfl sh_54 hb rfl rfl ?_
        refine g_iload (pc' := 54)  hc rfl rfl rfl ?_
        refine g_icmp_eq (pc' := 57) hc rfl rfl (fun hx => ?_) (fun hx => ?_)
        · replace h := zwp_t h hx
          refine g_iinc (pc' := 63) (ls1 := [some (.ref 0), some (.int a1), some (.int a2), some (.int x14), some (.int (x15 + (1 : Int32))), some (.int (x17 a1.toNatClampNeg))]) hc rfl rfl zki_1 (zlt rfl) rfl rfl ?_
          refine g_goto hc rfl ?_
          replace h := zwp_l h
          exact h (some (.int (x17 a1.toNatClampNeg))) rfl
        · replace h := zwp_f h hx
          refine g_iinc (pc' := 60) (ls1 := [some (.ref 0), some (.int a1), some (.int a2), some (.int (x14 + (1 : Int32))), some (.int x15), some (.int (x17 a1.toNatClampNeg))]) hc rfl rfl zki_1 (zlt rfl) rfl rfl ?_
          refine g_iinc (pc' := 63) (ls1 := [some (.ref 0), some (.int a1), some (.int a2), some (.int (x14 + (1 : Int32))), some (.int (x15 + (1 : Int32))), some (.int (x17 a1.toNatClampNeg))]) hc rfl rfl zki_1 (zlt rfl) rfl rfl ?_
          refine g_goto hc rfl ?_
          replace h := zwp_l h
          exact h (some (.int (x17 a1.toNatClampNeg))) rfl
    · replace h := zws h
      exact z_pox (L' := [(14, none, (I 14)), (17, none, (I 17)), (52, none, (I 52)), (53, some 0, fun _ => (I 53 0)), (53, some 1, fun _ => (I 53 1)), (53, some 3, fun _ => (I 53 3)), (54, none, (I 54)), (55, none, (I 55)), (56, none, (I 56)), (57, none, (I 57))]) (K' := [(53, some 2, fun _ => (J 53 2))]) rfl rfl rfl rfl rfl rfl rfl h
  · replace h := zws h
    exact z_pox (L' := [(14, none, (I 14)), (17, none, (I 17)), (52, none, (I 52)), (53, some 0, fun _ => (I 53 0)), (53, some 1, fun _ => (I 53 1)), (53, some 3, fun _ => (I 53 3)), (54, none, (I 54)), (55, none, (I 55)), (56, none, (I 56)), (57, none, (I 57))]) (K' := [(53, some 2, fun _ => (J 53 2))]) rfl rfl rfl rfl rfl rfl rfl h
set_option maxRecDepth 4000 in
theorem ok_L_gone_0_107_p {I : pI} {J : pJ} {a1 : Int32} {a2 : Int32} {Q : pQ} {d : Nat} (hd : 9 ≤ d) (h : zwp (f_L_gone a1 a2 1 (J 107) (I 54) (I 53 3) (I 56) (I 53 0) (I 57) (I 53 1) (I 55) (J 53 2) (I 52) (I 32) (I 31 3) (I 34) (I 31 0) (I 35) (I 31 1) (I 33) (J 31 2) (I 7 12) (I 7 3) (I 15) (I 13 2) (I 14) (I 7 1) (I 18) (I 16 2) (I 17) (I 12) (I 7 9) (I 9) (I 10) (I 7 0)) (fun w => match w with | (r, o0, o1, o2, o3, o4, o5, o6, o7, o8, o9, o10, o11) => Q (.inl (some (.int r))) (zS 7 19 I [(14, none, o10), (17, none, o11), (52, none, o9), (53, some 0, fun _ => o4), (53, some 1, fun _ => o6), (53, some 3, fun _ => o2), (54, none, o1), (55, none, o7), (56, none, o3), (57, none, o5)] J [(53, some 2, fun _ => o8), (107, none, o0)]))) : pm_call M cost zext d 299 [.ref 0, .int a1, .int a2, .ref 107] (pm_st 108 (shp 7 19) I J) Q := by
  obtain ⟨d, rfl⟩ := zd1 hd rfl
  have hc := pm_call_m (M := M) (cost := cost) zext_m d
  refine z_in (L := [(14, none, (I 14)), (17, none, (I 17)), (52, none, (I 52)), (53, some 0, fun _ => (I 53 0)), (53, some 1, fun _ => (I 53 1)), (53, some 3, fun _ => (I 53 3)), (54, none, (I 54)), (55, none, (I 55)), (56, none, (I 56)), (57, none, (I 57))]) (K := [(53, some 2, fun _ => (J 53 2)), (107, none, (J 107))]) (ls := [some (.ref 0), some (.int a1), some (.int a2), some (.ref 107), none]) zmt_299 zco_299 rfl rfl (zid_a (zid_a (zid_a (zid_s (zid_s (zid_s (zid_a (zid_a (zid_a (zid_a zid_n)))))))))) (zid_s (zid_a zid_n)) ?_
  delta f_L_gone at h
  refine g_aload_n (pc' := 1)  hc rfl rfl rfl rfl ?_
  refine g_iconst (pc' := 2) (v := (0 : Int32)) hc rfl zki_0 rfl ?_
  refine g_aload_n (pc' := 3)  hc rfl rfl rfl rfl ?_
  refine g_iload_n (pc' := 4)  hc rfl rfl rfl ?_
  refine g_iload_n (pc' := 5)  hc rfl rfl rfl ?_
  refine z_virt (as := [.int a1, .int a2]) (a := 0) (r := [.int (0 : Int32), .ref 107]) hc rfl rfl rfl rfl sh_0 rfl zco_130 rfl rfl rfl ?_
  refine ok_X11_gone_0_p (zdp hd rfl) (zwp_mono (zwp_bind h) ?_)
  rintro ⟨(r12 | E13), o1, o2, o3, o4, o5, o6, o7, o8, o9, o10, o11⟩ h
  · refine z_po (pc' := 8) (st' := [.int r12, .int (0 : Int32), .ref 107]) (v := (some (.int r12))) (L' := [(14, none, o10), (17, none, o11), (52, none, o9), (53, some 0, fun _ => o4), (53, some 1, fun _ => o6), (53, some 3, fun _ => o2), (54, none, o1), (55, none, o7), (56, none, o3), (57, none, o5)]) (K' := [(53, some 2, fun _ => o8), (107, none, (J 107))]) zco_130 rfl rfl rfl rfl rfl rfl rfl rfl ?_
    refine g_i2l (pc' := 9)  hc rfl rfl ?_
    have hb := (zwp_bnd h).1
    replace h := (zwp_bnd h).2
    refine z_lastore (pc' := 10) (g := (J 107)) (K' := [(53, some 2, fun _ => o8), (107, none, (vp_updL ((J 107)) (0 : Int32).toNatClampNeg r12.toInt64))]) hc rfl rfl sh_107 hb rfl rfl rfl rfl ?_
    refine g_goto hc rfl ?_
    refine g_iconst (pc' := 22) (v := (0 : Int32)) hc rfl zki_0 rfl ?_
    replace h := zws h
    exact g_ireturn hc rfl rfl rfl (fun _ => ⟨rfl, rfl⟩) h
  · by_cases hE : E13 = x_N
    · replace h := zwp_t h hE
      replace h := zws h
      exact z_poh (L' := [(14, none, o10), (17, none, o11), (52, none, o9), (53, some 0, fun _ => o4), (53, some 1, fun _ => o6), (53, some 3, fun _ => o2), (54, none, o1), (55, none, o7), (56, none, o3), (57, none, o5)]) (K' := [(53, some 2, fun _ => o8), (107, none, (J 107))]) (zhd2a (e := 10) (pc := 5) rfl hE) rfl rfl rfl rfl rfl rfl rfl rfl h
    replace h := zwp_f h hE
    have hN := hE
    by_cases hE : E13 = x_I
    · replace h := zwp_t h hE
      replace h := zws h
      exact z_poh (L' := [(14, none, o10), (17, none, o11), (52, none, o9), (53, some 0, fun _ => o4), (53, some 1, fun _ => o6), (53, some 3, fun _ => o2), (54, none, o1), (55, none, o7), (56, none, o3), (57, none, o5)]) (K' := [(53, some 2, fun _ => o8), (107, none, (J 107))]) (zhd2b (e := 10) (pc := 5) rfl hN hE) rfl rfl rfl rfl rfl rfl rfl rfl h
    replace h := zwp_f h hE
    exact (zwn h).elim
set_option maxRecDepth 4000 in
theorem ok_X3_lightOf_19 {p q : Nat} {I : pI} {J : pJ} {a1 : Int32} {Q : pQ} {d : Nat} (hd : 1 ≤ d) (h : zwp (f_X3_lightOf a1 (I 24) (I 19 9)) (fun r => Q (.inl (some (.int r))) (zS p q I [] J []))) : pm_call M cost zext d 22 [.ref 19, .int a1] (pm_st 108 (shp p q) I J) Q := by
  obtain ⟨d, rfl⟩ := zd1 hd rfl
  have hc := pm_call_m (M := M) (cost := cost) zext_m d
  refine z_in (L := []) (K := []) (ls := [some (.ref 19), some (.int a1)]) zmt_22 zco_22 rfl rfl zid_n zid_n ?_
  delta f_X3_lightOf at h
  refine g_aload_n (pc' := 1)  hc rfl rfl rfl rfl ?_
  refine z_getI (pc' := 4) (v := (I 19 9)) hc rfl rfl rfl sh_19 rfl rfl rfl ?_
  refine g_if_le (pc' := 7) hc rfl rfl (fun hx => ?_) (fun hx => ?_)
  · replace h := zwp_t h hx
    refine g_iconst (pc' := 22) (v := (5 : Int32)) hc rfl zki_5 rfl ?_
    replace h := zws h
    exact g_ireturn hc rfl rfl rfl (fun _ => ⟨rfl, rfl⟩) h
  · replace h := zwp_f h hx
    refine g_aload_n (pc' := 8)  hc rfl rfl rfl rfl ?_
    refine z_getR (pc' := 11)  hc rfl rfl rfl sh_19 rfl rfl ?_
    refine g_iload_n (pc' := 12)  hc rfl rfl rfl ?_
    refine g_aload_n (pc' := 13)  hc rfl rfl rfl rfl ?_
    refine z_getI (pc' := 16) (v := (I 19 9)) hc rfl rfl rfl sh_19 rfl rfl rfl ?_
    have hz := (zwp_nz h).1
    replace h := (zwp_nz h).2
    refine g_irem (pc' := 17)  hc rfl hz rfl ?_
    have hb := (zwp_bnd h).1
    replace h := (zwp_bnd h).2
    refine z_iaload (pc' := 18) (v := (((I 24)) (a1 - a1 / ((I 19 9)) * ((I 19 9))).toNatClampNeg)) hc rfl rfl sh_24 hb rfl rfl ?_
    refine g_goto hc rfl ?_
    replace h := zws h
    exact g_ireturn hc rfl rfl rfl (fun _ => ⟨rfl, rfl⟩) h
set_option maxRecDepth 4000 in
theorem ok_X3_isDull_19 {p q : Nat} {I : pI} {J : pJ} {a1 : Int32} {Q : pQ} {d : Nat} (hd : 2 ≤ d) (h : zwp (f_X3_isDull a1 (I 19 12) (I 24) (I 19 9)) (fun r => Q (.inl (some (.int r))) (zS p q I [] J []))) : pm_call M cost zext d 23 [.ref 19, .int a1] (pm_st 108 (shp p q) I J) Q := by
  obtain ⟨d, rfl⟩ := zd1 hd rfl
  have hc := pm_call_m (M := M) (cost := cost) zext_m d
  refine z_in (L := []) (K := []) (ls := [some (.ref 19), some (.int a1)]) zmt_23 zco_23 rfl rfl zid_n zid_n ?_
  delta f_X3_isDull at h
  refine g_aload_n (pc' := 1)  hc rfl rfl rfl rfl ?_
  refine g_iload_n (pc' := 2)  hc rfl rfl rfl ?_
  refine z_virt (as := [.int a1]) (a := 19) (r := []) hc rfl rfl rfl rfl sh_19 rfl zco_22 rfl rfl rfl ?_
  refine ok_X3_lightOf_19 (zdp hd rfl) (zwp_mono (zwp_bind h) ?_)
  rintro r1 h
  refine z_po (pc' := 5) (st' := [.int r1]) (v := (some (.int r1))) (L' := []) (K' := []) zco_22 rfl rfl rfl rfl rfl rfl rfl rfl ?_
  refine g_aload_n (pc' := 6)  hc rfl rfl rfl rfl ?_
  refine z_getI (pc' := 9) (v := (I 19 12)) hc rfl rfl rfl sh_19 rfl rfl rfl ?_
  refine g_icmp_ge (pc' := 12) hc rfl rfl (fun hx => ?_) (fun hx => ?_)
  · replace h := zwp_t h hx
    refine g_iconst (pc' := 17) (v := (0 : Int32)) hc rfl zki_0 rfl ?_
    replace h := zws h
    exact g_ireturn hc rfl rfl rfl (fun _ => ⟨rfl, rfl⟩) h
  · replace h := zwp_f h hx
    refine g_iconst (pc' := 13) (v := (1 : Int32)) hc rfl zki_1 rfl ?_
    refine g_goto hc rfl ?_
    replace h := zws h
    exact g_ireturn hc rfl rfl rfl (fun _ => ⟨rfl, rfl⟩) h
set_option maxRecDepth 4000 in
theorem ok_X3_stepOf_19 {p q : Nat} {I : pI} {J : pJ} {a1 : Int32} {a2 : Int32} {Q : pQ} {d : Nat} (hd : 1 ≤ d) (h : zwp (f_X3_stepOf a1 a2 (I 21) (I 22)) (fun r => Q (.inl (some (.int r))) (zS p q I [] J []))) : pm_call M cost zext d 24 [.ref 19, .int a1, .int a2] (pm_st 108 (shp p q) I J) Q := by
  obtain ⟨d, rfl⟩ := zd1 hd rfl
  have hc := pm_call_m (M := M) (cost := cost) zext_m d
  refine z_in (L := []) (K := []) (ls := [some (.ref 19), some (.int a1), some (.int a2), none]) zmt_24 zco_24 rfl rfl zid_n zid_n ?_
  delta f_X3_stepOf at h
  refine g_aload_n (pc' := 1)  hc rfl rfl rfl rfl ?_
  refine z_getR (pc' := 4)  hc rfl rfl rfl sh_19 rfl rfl ?_
  refine g_iload_n (pc' := 5)  hc rfl rfl rfl ?_
  have hb := (zwp_bnd h).1
  replace h := (zwp_bnd h).2
  refine z_iaload (pc' := 6) (v := (((I 21)) a1.toNatClampNeg)) hc rfl rfl sh_21 hb rfl rfl ?_
  refine g_istore_n (pc' := 7) (ls1 := [some (.ref 19), some (.int a1), some (.int a2), some (.int (((I 21)) a1.toNatClampNeg))]) hc rfl (zlt rfl) rfl rfl ?_
  refine g_iload_n (pc' := 8)  hc rfl rfl rfl ?_
  refine g_if_le (pc' := 11) hc rfl rfl (fun hx => ?_) (fun hx => ?_)
  · replace h := zwp_t h hx
    refine g_iconst (pc' := 28) (v := (0 : Int32)) hc rfl zki_0 rfl ?_
    replace h := zws h
    exact g_ireturn hc rfl rfl rfl (fun _ => ⟨rfl, rfl⟩) h
  · replace h := zwp_f h hx
    refine g_aload_n (pc' := 12)  hc rfl rfl rfl rfl ?_
    refine z_getR (pc' := 15)  hc rfl rfl rfl sh_19 rfl rfl ?_
    refine g_iload_n (pc' := 16)  hc rfl rfl rfl ?_
    refine g_bipush (pc' := 18) (v := (8 : Int32)) hc rfl zkb_8 rfl ?_
    refine g_imul (pc' := 19)  hc rfl rfl ?_
    refine g_iload_n (pc' := 20)  hc rfl rfl rfl ?_
    refine g_iload_n (pc' := 21)  hc rfl rfl rfl ?_
    have hz := (zwp_nz h).1
    replace h := (zwp_nz h).2
    refine g_irem (pc' := 22)  hc rfl hz rfl ?_
    refine g_iadd (pc' := 23)  hc rfl rfl ?_
    have hb := (zwp_bnd h).1
    replace h := (zwp_bnd h).2
    refine z_iaload (pc' := 24) (v := (((I 22)) ((a1 * (8 : Int32)) + (a2 - a2 / (((I 21)) a1.toNatClampNeg) * (((I 21)) a1.toNatClampNeg))).toNatClampNeg)) hc rfl rfl sh_22 hb rfl rfl ?_
    refine g_goto hc rfl ?_
    replace h := zws h
    exact g_ireturn hc rfl rfl rfl (fun _ => ⟨rfl, rfl⟩) h
set_option maxRecDepth 4000 in
theorem ok_X2_setValues_51_19_31 {p q : Nat} {I : pI} {J : pJ} {a3 : Int32} {Q : pQ} {d : Nat} (hd : 2 ≤ d) (h : zwp (f_X2_setValues a3 (I 24) (I 19 9) (I 21) (I 22) (I 32) (I 31 3) (I 34) (I 31 0) (I 35) (I 33) (I 52)) (fun o0 => Q (.inl none) (zS p q I [(52, none, o0)] J []))) : pm_call M cost zext d 18 [.ref 51, .ref 19, .ref 31, .int a3] (pm_st 108 (shp p q) I J) Q := by
  obtain ⟨d, rfl⟩ := zd1 hd rfl
  have hc := pm_call_m (M := M) (cost := cost) zext_m d
  refine z_in (L := [(52, none, (I 52))]) (K := []) (ls := [some (.ref 51), some (.ref 19), some (.ref 31), some (.int a3)]) zmt_18 zco_18 rfl rfl (zid_a zid_n) zid_n ?_
  delta f_X2_setValues at h
  refine g_aload_n (pc' := 1)  hc rfl rfl rfl rfl ?_
  refine z_getR (pc' := 4)  hc rfl rfl rfl sh_51 rfl rfl ?_
  refine g_iconst (pc' := 5) (v := (0 : Int32)) hc rfl zki_0 rfl ?_
  refine g_aload_n (pc' := 6)  hc rfl rfl rfl rfl ?_
  refine z_getR (pc' := 9)  hc rfl rfl rfl sh_31 rfl rfl ?_
  refine g_iload_n (pc' := 10)  hc rfl rfl rfl ?_
  have hb := (zwp_bnd h).1
  replace h := (zwp_bnd h).2
  refine z_iaload (pc' := 11) (v := (((I 33)) a3.toNatClampNeg)) hc rfl rfl sh_33 hb rfl rfl ?_
  refine z_iastore (pc' := 12) (g := (I 52)) (L' := [(52, none, (upd ((I 52)) 0 (((I 33)) a3.toNatClampNeg)))]) hc rfl rfl sh_52 (by decide) rfl rfl rfl rfl ?_
  refine g_aload_n (pc' := 13)  hc rfl rfl rfl rfl ?_
  refine z_getR (pc' := 16)  hc rfl rfl rfl sh_51 rfl rfl ?_
  refine g_iconst (pc' := 17) (v := (1 : Int32)) hc rfl zki_1 rfl ?_
  refine g_aload_n (pc' := 18)  hc rfl rfl rfl rfl ?_
  refine g_aload_n (pc' := 19)  hc rfl rfl rfl rfl ?_
  refine z_getI (pc' := 22) (v := (I 31 0)) hc rfl rfl rfl sh_31 rfl rfl rfl ?_
  refine z_virt (as := [.int (I 31 0)]) (a := 19) (r := [.int (1 : Int32), .ref 52]) hc rfl rfl rfl rfl sh_19 rfl zco_22 rfl rfl rfl ?_
  refine ok_X3_lightOf_19 (zdp hd rfl) (zwp_mono (zwp_bind h) ?_)
  rintro r1 h
  refine z_po (pc' := 25) (st' := [.int r1, .int (1 : Int32), .ref 52]) (v := (some (.int r1))) (L' := [(52, none, (upd ((I 52)) 0 (((I 33)) a3.toNatClampNeg)))]) (K' := []) zco_22 rfl rfl rfl rfl rfl rfl rfl rfl ?_
  refine z_iastore (pc' := 26) (g := (upd ((I 52)) 0 (((I 33)) a3.toNatClampNeg))) (L' := [(52, none, (upd (upd ((I 52)) 0 (((I 33)) a3.toNatClampNeg)) 1 r1))]) hc rfl rfl sh_52 (by decide) rfl rfl rfl rfl ?_
  refine g_aload_n (pc' := 27)  hc rfl rfl rfl rfl ?_
  refine z_getR (pc' := 30)  hc rfl rfl rfl sh_51 rfl rfl ?_
  refine g_iconst (pc' := 31) (v := (2 : Int32)) hc rfl zki_2 rfl ?_
  refine g_aload_n (pc' := 32)  hc rfl rfl rfl rfl ?_
  refine g_iload_n (pc' := 33)  hc rfl rfl rfl ?_
  refine z_virt (as := [.int a3]) (a := 31) (r := [.int (2 : Int32), .ref 52]) hc rfl rfl rfl rfl sh_31 rfl zco_73 rfl rfl rfl ?_
  refine ok_X8_othersWith_31 (zdp hd rfl) (zwp_mono (zwp_bind h) ?_)
  rintro r2 h
  refine z_po (pc' := 36) (st' := [.int r2, .int (2 : Int32), .ref 52]) (v := (some (.int r2))) (L' := [(52, none, (upd (upd ((I 52)) 0 (((I 33)) a3.toNatClampNeg)) 1 r1))]) (K' := []) zco_73 rfl rfl rfl rfl rfl rfl rfl rfl ?_
  refine z_iastore (pc' := 37) (g := (upd (upd ((I 52)) 0 (((I 33)) a3.toNatClampNeg)) 1 r1)) (L' := [(52, none, (upd (upd (upd ((I 52)) 0 (((I 33)) a3.toNatClampNeg)) 1 r1) 2 r2))]) hc rfl rfl sh_52 (by decide) rfl rfl rfl rfl ?_
  refine g_aload_n (pc' := 38)  hc rfl rfl rfl rfl ?_
  refine z_getR (pc' := 41)  hc rfl rfl rfl sh_51 rfl rfl ?_
  refine g_iconst (pc' := 42) (v := (3 : Int32)) hc rfl zki_3 rfl ?_
  refine g_aload_n (pc' := 43)  hc rfl rfl rfl rfl ?_
  refine z_getI (pc' := 46) (v := (I 31 0)) hc rfl rfl rfl sh_31 rfl rfl rfl ?_
  refine z_iastore (pc' := 47) (g := (upd (upd (upd ((I 52)) 0 (((I 33)) a3.toNatClampNeg)) 1 r1) 2 r2)) (L' := [(52, none, (upd (upd (upd (upd ((I 52)) 0 (((I 33)) a3.toNatClampNeg)) 1 r1) 2 r2) 3 ((I 31 0))))]) hc rfl rfl sh_52 (by decide) rfl rfl rfl rfl ?_
  refine g_aload_n (pc' := 48)  hc rfl rfl rfl rfl ?_
  refine z_getR (pc' := 51)  hc rfl rfl rfl sh_51 rfl rfl ?_
  refine g_iconst (pc' := 52) (v := (4 : Int32)) hc rfl zki_4 rfl ?_
  refine g_aload_n (pc' := 53)  hc rfl rfl rfl rfl ?_
  refine g_iload_n (pc' := 54)  hc rfl rfl rfl ?_
  refine g_aload_n (pc' := 55)  hc rfl rfl rfl rfl ?_
  refine z_getI (pc' := 58) (v := (I 31 0)) hc rfl rfl rfl sh_31 rfl rfl rfl ?_
  refine g_aload_n (pc' := 59)  hc rfl rfl rfl rfl ?_
  refine z_getR (pc' := 62)  hc rfl rfl rfl sh_31 rfl rfl ?_
  refine g_iload_n (pc' := 63)  hc rfl rfl rfl ?_
  have hb := (zwp_bnd h).1
  replace h := (zwp_bnd h).2
  refine z_iaload (pc' := 64) (v := (((I 35)) a3.toNatClampNeg)) hc rfl rfl sh_35 hb rfl rfl ?_
  refine g_iadd (pc' := 65)  hc rfl rfl ?_
  refine z_virt (as := [.int a3, .int (((I 31 0)) + (((I 35)) a3.toNatClampNeg))]) (a := 19) (r := [.int (4 : Int32), .ref 52]) hc rfl rfl rfl rfl sh_19 rfl zco_24 rfl rfl rfl ?_
  refine ok_X3_stepOf_19 (zdp hd rfl) (zwp_mono (zwp_bind h) ?_)
  rintro r3 h
  refine z_po (pc' := 68) (st' := [.int r3, .int (4 : Int32), .ref 52]) (v := (some (.int r3))) (L' := [(52, none, (upd (upd (upd (upd ((I 52)) 0 (((I 33)) a3.toNatClampNeg)) 1 r1) 2 r2) 3 ((I 31 0))))]) (K' := []) zco_24 rfl rfl rfl rfl rfl rfl rfl rfl ?_
  refine z_iastore (pc' := 69) (g := (upd (upd (upd (upd ((I 52)) 0 (((I 33)) a3.toNatClampNeg)) 1 r1) 2 r2) 3 ((I 31 0)))) (L' := [(52, none, (upd (upd (upd (upd (upd ((I 52)) 0 (((I 33)) a3.toNatClampNeg)) 1 r1) 2 r2) 3 ((I 31 0))) 4 r3))]) hc rfl rfl sh_52 (by decide) rfl rfl rfl rfl ?_
  refine g_aload_n (pc' := 70)  hc rfl rfl rfl rfl ?_
  refine z_getR (pc' := 73)  hc rfl rfl rfl sh_51 rfl rfl ?_
  refine g_iconst (pc' := 74) (v := (5 : Int32)) hc rfl zki_5 rfl ?_
  refine g_aload_n (pc' := 75)  hc rfl rfl rfl rfl ?_
  refine z_getR (pc' := 78)  hc rfl rfl rfl sh_31 rfl rfl ?_
  refine g_iload_n (pc' := 79)  hc rfl rfl rfl ?_
  have hb := (zwp_bnd h).1
  replace h := (zwp_bnd h).2
  refine z_iaload (pc' := 80) (v := (((I 34)) a3.toNatClampNeg)) hc rfl rfl sh_34 hb rfl rfl ?_
  refine z_iastore (pc' := 81) (g := (upd (upd (upd (upd (upd ((I 52)) 0 (((I 33)) a3.toNatClampNeg)) 1 r1) 2 r2) 3 ((I 31 0))) 4 r3)) (L' := [(52, none, (upd (upd (upd (upd (upd (upd ((I 52)) 0 (((I 33)) a3.toNatClampNeg)) 1 r1) 2 r2) 3 ((I 31 0))) 4 r3) 5 (((I 34)) a3.toNatClampNeg)))]) hc rfl rfl sh_52 (by decide) rfl rfl rfl rfl ?_
  replace h := zws h
  exact g_return hc rfl rfl (fun _ => ⟨rfl, rfl⟩) h
set_option maxRecDepth 4000 in
theorem ok_X5_value_28_52 {p q : Nat} {I : pI} {J : pJ} {Q : pQ} {d : Nat} (hd : 2 ≤ d) (h : zwp (f_X5_value 6 (I 52) (I 30) (I 28 2) (I 29)) (fun w => match w with | (r, o0) => Q (.inl (some (.int r))) (zS p q I [(29, none, o0)] J []))) : pm_call M cost zext d 45 [.ref 28, .ref 52] (pm_st 108 (shp p q) I J) Q := by
  obtain ⟨d, rfl⟩ := zd1 hd rfl
  have hc := pm_call_m (M := M) (cost := cost) zext_m d
  refine z_in (L := [(29, none, (I 29))]) (K := []) (ls := [some (.ref 28), some (.ref 52), none, none, none]) zmt_45 zco_45 rfl rfl (zid_a zid_n) zid_n ?_
  delta f_X5_value at h
  refine g_iconst (pc' := 1) (v := (-1 : Int32)) hc rfl zki_m1 rfl ?_
  refine g_istore_n (pc' := 2) (ls1 := [some (.ref 28), some (.ref 52), some (.int (-1 : Int32)), none, none]) hc rfl (zlt rfl) rfl rfl ?_
  refine g_iconst (pc' := 3) (v := (0 : Int32)) hc rfl zki_0 rfl ?_
  refine g_istore_n (pc' := 4) (ls1 := [some (.ref 28), some (.ref 52), some (.int (-1 : Int32)), some (.int (0 : Int32)), none]) hc rfl (zlt rfl) rfl rfl ?_
  refine zjn (G := (fun (g : Int32 × (Nat → Int32)) => match g with | (y5, y8) => ∀ z6 : Option Value, znl z6 = true → ∀ z7 : Option Value, znl z7 = true → pm_ev C_X5_value (d + 1) (pm_call M cost zext d) cost (false, false) 108 0 0 Q 139 [some (.ref 28), some (.ref 52), some (.int y5), z6, z7] [] 0 0 (zS p q I [(29, none, y8)] J []))) (zwp_bind h) ?_ (fun h => ?_)
  · rintro ⟨y5, y8⟩ h z6 hz6 z7 hz7
    refine g_iload_n (pc' := 140)  hc rfl rfl rfl ?_
    refine g_if_lt (pc' := 143) hc rfl rfl (fun hx => ?_) (fun hx => ?_)
    · replace h := zwp_t h hx
      refine g_iconst (pc' := 153) (v := (0 : Int32)) hc rfl zki_0 rfl ?_
      replace h := zws h
      exact g_ireturn hc rfl rfl rfl (fun _ => ⟨rfl, rfl⟩) h
    · replace h := zwp_f h hx
      refine g_aload_n (pc' := 144)  hc rfl rfl rfl rfl ?_
      refine z_getR (pc' := 147)  hc rfl rfl rfl sh_28 rfl rfl ?_
      refine g_iload_n (pc' := 148)  hc rfl rfl rfl ?_
      have hb := (zwp_bnd h).1
      replace h := (zwp_bnd h).2
      refine z_iaload (pc' := 149) (v := (y8 y5.toNatClampNeg)) hc rfl rfl sh_29 hb rfl rfl ?_
      refine g_goto hc rfl ?_
      replace h := zws h
      exact g_ireturn hc rfl rfl rfl (fun _ => ⟨rfl, rfl⟩) h
  refine zitr_ev (G := (fun (g : Int32 × Int32 × (Nat → Int32)) => match g with | (x1, x2, x4) => ∀ z3 : Option Value, znl z3 = true → pm_ev C_X5_value (d + 1) (pm_call M cost zext d) cost (false, false) 108 0 0 Q 4 [some (.ref 28), some (.ref 52), some (.int x1), some (.int x2), z3] [] 0 0 (zS p q I [(29, none, x4)] J []))) ?_ zFU ((-1 : Int32), (0 : Int32), (I 29)) h none rfl
  rintro ⟨x1, x2, x4⟩ h z3 hz3
  refine g_iload_n (pc' := 5)  hc rfl rfl rfl ?_
  refine g_aload_n (pc' := 6)  hc rfl rfl rfl rfl ?_
  refine z_getI (pc' := 9) (v := (I 28 2)) hc rfl rfl rfl sh_28 rfl rfl rfl ?_
  refine g_icmp_ge (pc' := 12) hc rfl rfl (fun hx => ?_) (fun hx => ?_)
  · replace h := zwp_t h hx
    replace h := zwp_r h
    exact h (some (.int x2)) rfl z3 hz3
  · replace h := zwp_f h hx
    refine g_aload_n (pc' := 13)  hc rfl rfl rfl rfl ?_
    refine z_getR (pc' := 16)  hc rfl rfl rfl sh_28 rfl rfl ?_
    refine g_iload_n (pc' := 17)  hc rfl rfl rfl ?_
    have hb := (zwp_bnd h).1
    replace h := (zwp_bnd h).2
    refine z_iaload (pc' := 18) (v := (((I 30)) x2.toNatClampNeg)) hc rfl rfl sh_30 hb rfl rfl ?_
    refine g_istore (pc' := 20) (ls1 := [some (.ref 28), some (.ref 52), some (.int x1), some (.int x2), some (.int (((I 30)) x2.toNatClampNeg))]) hc rfl (zlt rfl) rfl rfl ?_
    refine g_iload (pc' := 22)  hc rfl rfl rfl ?_
    refine g_bipush (pc' := 24) (v := (-6 : Int32)) hc rfl zkb_m6 rfl ?_
    refine g_icmp_lt (pc' := 27) hc rfl rfl (fun hx => ?_) (fun hx => ?_)
    · replace h := zwp_t h hx
      refine g_iload (pc' := 68)  hc rfl rfl rfl ?_
      refine g_bipush (pc' := 70) (v := (-13 : Int32)) hc rfl zkb_m13 rfl ?_
      refine g_icmp_ne (pc' := 73) hc rfl rfl (fun hx => ?_) (fun hx => ?_)
      · replace h := zwp_f h hx
        refine g_iload_n (pc' := 101)  hc rfl rfl rfl ?_
        refine g_iconst (pc' := 102) (v := (1 : Int32)) hc rfl zki_1 rfl ?_
        refine g_icmp_lt (pc' := 105) hc rfl rfl (fun hx => ?_) (fun hx => ?_)
        · replace h := zwp_t h hx
          refine g_iinc (pc' := 136) (ls1 := [some (.ref 28), some (.ref 52), some (.int x1), some (.int (x2 + (1 : Int32))), some (.int (((I 30)) x2.toNatClampNeg))]) hc rfl rfl zki_1 (zlt rfl) rfl rfl ?_
          refine g_goto hc rfl ?_
          replace h := zwp_l h
          exact h (some (.int (((I 30)) x2.toNatClampNeg))) rfl
        · replace h := zwp_f h hx
          refine g_iinc (pc' := 108) (ls1 := [some (.ref 28), some (.ref 52), some (.int (x1 + (-1 : Int32))), some (.int x2), some (.int (((I 30)) x2.toNatClampNeg))]) hc rfl rfl zki_m1 (zlt rfl) rfl rfl ?_
          refine g_aload_n (pc' := 109)  hc rfl rfl rfl rfl ?_
          refine z_getR (pc' := 112)  hc rfl rfl rfl sh_28 rfl rfl ?_
          refine g_iload_n (pc' := 113)  hc rfl rfl rfl ?_
          refine g_iload (pc' := 115)  hc rfl rfl rfl ?_
          refine g_aload_n (pc' := 116)  hc rfl rfl rfl rfl ?_
          refine z_getR (pc' := 119)  hc rfl rfl rfl sh_28 rfl rfl ?_
          refine g_iload_n (pc' := 120)  hc rfl rfl rfl ?_
          have hb := (zwp_bnd h).1
          replace h := (zwp_bnd h).2
          refine z_iaload (pc' := 121) (v := (x4 (x1 + (-1 : Int32)).toNatClampNeg)) hc rfl rfl sh_29 hb rfl rfl ?_
          refine g_aload_n (pc' := 122)  hc rfl rfl rfl rfl ?_
          refine z_getR (pc' := 125)  hc rfl rfl rfl sh_28 rfl rfl ?_
          refine g_iload_n (pc' := 126)  hc rfl rfl rfl ?_
          refine g_iconst (pc' := 127) (v := (1 : Int32)) hc rfl zki_1 rfl ?_
          refine g_iadd (pc' := 128)  hc rfl rfl ?_
          have hb := (zwp_bnd h).1
          replace h := (zwp_bnd h).2
          refine z_iaload (pc' := 129) (v := (x4 ((x1 + (-1 : Int32)) + (1 : Int32)).toNatClampNeg)) hc rfl rfl sh_29 hb rfl rfl ?_
          refine z_stat (as := [.int (((I 30)) x2.toNatClampNeg), .int (x4 (x1 + (-1 : Int32)).toNatClampNeg), .int (x4 ((x1 + (-1 : Int32)) + (1 : Int32)).toNatClampNeg)]) (r := [.int (x1 + (-1 : Int32)), .ref 29]) hc rfl rfl rfl rfl zco_46 rfl rfl rfl ?_
          refine ok_X5_join (zdp hd rfl) (zwp_mono (zwp_bind h) ?_)
          rintro r9 h
          refine z_po (pc' := 132) (st' := [.int r9, .int (x1 + (-1 : Int32)), .ref 29]) (v := (some (.int r9))) (L' := [(29, none, x4)]) (K' := []) zco_46 rfl rfl rfl rfl rfl rfl rfl rfl ?_
          have hb := (zwp_bnd h).1
          replace h := (zwp_bnd h).2
          refine z_iastore (pc' := 133) (g := x4) (L' := [(29, none, (upd x4 (x1 + (-1 : Int32)).toNatClampNeg r9))]) hc rfl rfl sh_29 hb rfl rfl rfl rfl ?_
          refine g_iinc (pc' := 136) (ls1 := [some (.ref 28), some (.ref 52), some (.int (x1 + (-1 : Int32))), some (.int (x2 + (1 : Int32))), some (.int (((I 30)) x2.toNatClampNeg))]) hc rfl rfl zki_1 (zlt rfl) rfl rfl ?_
          refine g_goto hc rfl ?_
          replace h := zwp_l h
          exact h (some (.int (((I 30)) x2.toNatClampNeg))) rfl
      · replace h := zwp_t h hx
        refine g_iload_n (pc' := 74)  hc rfl rfl rfl ?_
        refine g_if_lt (pc' := 77) hc rfl rfl (fun hx => ?_) (fun hx => ?_)
        · replace h := zwp_t h hx
          refine g_iinc (pc' := 136) (ls1 := [some (.ref 28), some (.ref 52), some (.int x1), some (.int (x2 + (1 : Int32))), some (.int (((I 30)) x2.toNatClampNeg))]) hc rfl rfl zki_1 (zlt rfl) rfl rfl ?_
          refine g_goto hc rfl ?_
          replace h := zwp_l h
          exact h (some (.int (((I 30)) x2.toNatClampNeg))) rfl
        · replace h := zwp_f h hx
          refine g_aload_n (pc' := 78)  hc rfl rfl rfl rfl ?_
          refine z_getR (pc' := 81)  hc rfl rfl rfl sh_28 rfl rfl ?_
          refine g_iload_n (pc' := 82)  hc rfl rfl rfl ?_
          refine g_aload_n (pc' := 83)  hc rfl rfl rfl rfl ?_
          refine z_getR (pc' := 86)  hc rfl rfl rfl sh_28 rfl rfl ?_
          refine g_iload_n (pc' := 87)  hc rfl rfl rfl ?_
          have hb := (zwp_bnd h).1
          replace h := (zwp_bnd h).2
          refine z_iaload (pc' := 88) (v := (x4 x1.toNatClampNeg)) hc rfl rfl sh_29 hb rfl rfl ?_
          refine zjn (G := (fun (j10 : Int32) => pm_ev C_X5_value (d + 1) (pm_call M cost zext d) cost (false, false) 108 0 0 Q 96 [some (.ref 28), some (.ref 52), some (.int x1), some (.int x2), some (.int (((I 30)) x2.toNatClampNeg))] [.int j10, .int x1, .ref 29] 0 0 (zS p q I [(29, none, x4)] J []))) (zwp_bind h) ?_ (fun h => ?_)
          · rintro j10 h
            have hb := (zwp_bnd h).1
            replace h := (zwp_bnd h).2
            refine z_iastore (pc' := 97) (g := x4) (L' := [(29, none, (upd x4 x1.toNatClampNeg j10))]) hc rfl rfl sh_29 hb rfl rfl rfl rfl ?_
            refine g_goto hc rfl ?_
            refine g_iinc (pc' := 136) (ls1 := [some (.ref 28), some (.ref 52), some (.int x1), some (.int (x2 + (1 : Int32))), some (.int (((I 30)) x2.toNatClampNeg))]) hc rfl rfl zki_1 (zlt rfl) rfl rfl ?_
            refine g_goto hc rfl ?_
            replace h := zwp_l h
            exact h (some (.int (((I 30)) x2.toNatClampNeg))) rfl
          refine g_if_ne (pc' := 91) hc rfl rfl (fun hx => ?_) (fun hx => ?_)
          · replace h := zwp_f h hx
            refine g_iconst (pc' := 96) (v := (0 : Int32)) hc rfl zki_0 rfl ?_
            replace h := zws h
            exact h
          · replace h := zwp_t h hx
            refine g_iconst (pc' := 92) (v := (1 : Int32)) hc rfl zki_1 rfl ?_
            refine g_goto hc rfl ?_
            replace h := zws h
            exact h
    · replace h := zwp_f h hx
      refine g_iload_n (pc' := 28)  hc rfl rfl rfl ?_
      refine g_iconst (pc' := 29) (v := (1 : Int32)) hc rfl zki_1 rfl ?_
      refine g_iadd (pc' := 30)  hc rfl rfl ?_
      refine g_aload_n (pc' := 31)  hc rfl rfl rfl rfl ?_
      refine z_getR (pc' := 34)  hc rfl rfl rfl sh_28 rfl rfl ?_
      refine z_alen (pc' := 35) (v := (48 : Int32)) hc rfl rfl sh_29 ⟨by decide, by decide⟩ zkn_48 rfl ?_
      refine g_icmp_ge (pc' := 38) hc rfl rfl (fun hx => ?_) (fun hx => ?_)
      · replace h := zwp_t h hx
        refine g_iinc (pc' := 136) (ls1 := [some (.ref 28), some (.ref 52), some (.int x1), some (.int (x2 + (1 : Int32))), some (.int (((I 30)) x2.toNatClampNeg))]) hc rfl rfl zki_1 (zlt rfl) rfl rfl ?_
        refine g_goto hc rfl ?_
        replace h := zwp_l h
        exact h (some (.int (((I 30)) x2.toNatClampNeg))) rfl
      · replace h := zwp_f h hx
        refine g_iinc (pc' := 41) (ls1 := [some (.ref 28), some (.ref 52), some (.int (x1 + (1 : Int32))), some (.int x2), some (.int (((I 30)) x2.toNatClampNeg))]) hc rfl rfl zki_1 (zlt rfl) rfl rfl ?_
        refine g_aload_n (pc' := 42)  hc rfl rfl rfl rfl ?_
        refine z_getR (pc' := 45)  hc rfl rfl rfl sh_28 rfl rfl ?_
        refine g_iload_n (pc' := 46)  hc rfl rfl rfl ?_
        refine g_iload (pc' := 48)  hc rfl rfl rfl ?_
        refine zjn (G := (fun (j11 : Int32) => pm_ev C_X5_value (d + 1) (pm_call M cost zext d) cost (false, false) 108 0 0 Q 62 [some (.ref 28), some (.ref 52), some (.int (x1 + (1 : Int32))), some (.int x2), some (.int (((I 30)) x2.toNatClampNeg))] [.int j11, .int (x1 + (1 : Int32)), .ref 29] 0 0 (zS p q I [(29, none, x4)] J []))) (zwp_bind h) ?_ (fun h => ?_)
        · rintro j11 h
          have hb := (zwp_bnd h).1
          replace h := (zwp_bnd h).2
          refine z_iastore (pc' := 63) (g := x4) (L' := [(29, none, (upd x4 (x1 + (1 : Int32)).toNatClampNeg j11))]) hc rfl rfl sh_29 hb rfl rfl rfl rfl ?_
          refine g_goto hc rfl ?_
          refine g_iinc (pc' := 136) (ls1 := [some (.ref 28), some (.ref 52), some (.int (x1 + (1 : Int32))), some (.int (x2 + (1 : Int32))), some (.int (((I 30)) x2.toNatClampNeg))]) hc rfl rfl zki_1 (zlt rfl) rfl rfl ?_
          refine g_goto hc rfl ?_
          replace h := zwp_l h
          exact h (some (.int (((I 30)) x2.toNatClampNeg))) rfl
        refine g_if_lt (pc' := 51) hc rfl rfl (fun hx => ?_) (fun hx => ?_)
        · replace h := zwp_t h hx
          refine g_aload_n (pc' := 57)  hc rfl rfl rfl rfl ?_
          refine g_iconst (pc' := 58) (v := (-1 : Int32)) hc rfl zki_m1 rfl ?_
          refine g_iload (pc' := 60)  hc rfl rfl rfl ?_
          refine g_isub (pc' := 61)  hc rfl rfl ?_
          have hb := (zwp_bnd h).1
          replace h := (zwp_bnd h).2
          refine z_iaload (pc' := 62) (v := (((I 52)) ((-1 : Int32) - (((I 30)) x2.toNatClampNeg)).toNatClampNeg)) hc rfl rfl sh_52 hb rfl rfl ?_
          replace h := zws h
          exact h
        · replace h := zwp_f h hx
          refine g_iload (pc' := 53)  hc rfl rfl rfl ?_
          refine g_goto hc rfl ?_
          replace h := zws h
          exact h
set_option maxRecDepth 4000 in
theorem ok_X2_hurt_51_19_31 {p q : Nat} {I : pI} {J : pJ} {a3 : Int32} {Q : pQ} {d : Nat} (hd : 3 ≤ d) (h : zwp (f_X2_hurt a3 (I 30) (I 28 2) (I 29) (I 24) (I 19 9) (I 21) (I 22) (I 32) (I 31 3) (I 34) (I 31 0) (I 35) (I 33) (I 52)) (fun w => match w with | (o0, o1, o2) => Q (.inl none) (zS p q I [(29, none, o0), (33, none, o1), (52, none, o2)] J []))) : pm_call M cost zext d 15 [.ref 51, .ref 19, .ref 31, .int a3] (pm_st 108 (shp p q) I J) Q := by
  obtain ⟨d, rfl⟩ := zd1 hd rfl
  have hc := pm_call_m (M := M) (cost := cost) zext_m d
  refine z_in (L := [(29, none, (I 29)), (33, none, (I 33)), (52, none, (I 52))]) (K := []) (ls := [some (.ref 51), some (.ref 19), some (.ref 31), some (.int a3), none]) zmt_15 zco_15 rfl rfl (zid_a (zid_a (zid_a zid_n))) zid_n ?_
  delta f_X2_hurt at h
  refine g_iconst (pc' := 1) (v := (1 : Int32)) hc rfl zki_1 rfl ?_
  refine g_istore (pc' := 3) (ls1 := [some (.ref 51), some (.ref 19), some (.ref 31), some (.int a3), some (.int (1 : Int32))]) hc rfl (zlt rfl) rfl rfl ?_
  refine g_aload_n (pc' := 4)  hc rfl rfl rfl rfl ?_
  refine z_getR (pc' := 7)  hc rfl rfl rfl sh_19 rfl rfl ?_
  refine z_virt (as := []) (a := 28) (r := []) hc rfl rfl rfl rfl sh_28 rfl zco_43 rfl rfl rfl ?_
  refine ok_X5_isTold_28 (zdp hd rfl) (zwp_mono (zwp_bind h) ?_)
  rintro r1 h
  refine z_po (pc' := 10) (st' := [.int r1]) (v := (some (.int r1))) (L' := [(29, none, (I 29)), (33, none, (I 33)), (52, none, (I 52))]) (K' := []) zco_43 rfl rfl rfl rfl rfl rfl rfl rfl ?_
  refine zjn (G := (fun (g : Int32 × (Nat → Int32) × (Nat → Int32)) => match g with | (j2, j3, j4) => pm_ev C_X2_hurt (d + 1) (pm_call M cost zext d) cost (false, false) 108 0 0 Q 42 [some (.ref 51), some (.ref 19), some (.ref 31), some (.int a3), some (.int j2)] [] 0 0 (zS p q I [(29, none, j3), (33, none, (I 33)), (52, none, j4)] J []))) (zwp_bind h) ?_ (fun h => ?_)
  · rintro ⟨j2, j3, j4⟩ h
    refine g_aload_n (pc' := 43)  hc rfl rfl rfl rfl ?_
    refine z_getR (pc' := 46)  hc rfl rfl rfl sh_31 rfl rfl ?_
    refine g_iload_n (pc' := 47)  hc rfl rfl rfl ?_
    refine g_bipush (pc' := 49) (v := (99 : Int32)) hc rfl zkb_99 rfl ?_
    refine g_aload_n (pc' := 50)  hc rfl rfl rfl rfl ?_
    refine z_getR (pc' := 53)  hc rfl rfl rfl sh_31 rfl rfl ?_
    refine g_iload_n (pc' := 54)  hc rfl rfl rfl ?_
    have hb := (zwp_bnd h).1
    replace h := (zwp_bnd h).2
    refine z_iaload (pc' := 55) (v := (((I 33)) a3.toNatClampNeg)) hc rfl rfl sh_33 hb rfl rfl ?_
    refine g_iload (pc' := 57)  hc rfl rfl rfl ?_
    refine g_iadd (pc' := 58)  hc rfl rfl ?_
    refine z_min (pc' := 61)  hc rfl rfl (zdq hd rfl) rfl rfl ?_
    have hb := (zwp_bnd h).1
    replace h := (zwp_bnd h).2
    refine z_iastore (pc' := 62) (g := (I 33)) (L' := [(29, none, j3), (33, none, (upd ((I 33)) a3.toNatClampNeg (if ((((I 33)) a3.toNatClampNeg) + j2) < (99 : Int32) then ((((I 33)) a3.toNatClampNeg) + j2) else (99 : Int32)))), (52, none, j4)]) hc rfl rfl sh_33 hb rfl rfl rfl rfl ?_
    replace h := zws h
    exact g_return hc rfl rfl (fun _ => ⟨rfl, rfl⟩) h
  refine g_if_eq (pc' := 13) hc rfl rfl (fun hx => ?_) (fun hx => ?_)
  · replace h := zwp_t h hx
    replace h := zws h
    exact h
  · replace h := zwp_f h hx
    refine g_aload_n (pc' := 14)  hc rfl rfl rfl rfl ?_
    refine g_aload_n (pc' := 15)  hc rfl rfl rfl rfl ?_
    refine g_aload_n (pc' := 16)  hc rfl rfl rfl rfl ?_
    refine g_iload_n (pc' := 17)  hc rfl rfl rfl ?_
    refine z_virt (as := [.ref 19, .ref 31, .int a3]) (a := 51) (r := []) hc rfl rfl rfl rfl sh_51 rfl zco_18 rfl rfl rfl ?_
    refine ok_X2_setValues_51_19_31 (zdp hd rfl) (zwp_mono (zwp_bind h) ?_)
    rintro o5 h
    refine z_po (pc' := 20) (st' := []) (v := none) (L' := [(29, none, (I 29)), (33, none, (I 33)), (52, none, o5)]) (K' := []) zco_18 rfl rfl rfl rfl rfl rfl rfl rfl ?_
    refine g_iconst (pc' := 21) (v := (0 : Int32)) hc rfl zki_0 rfl ?_
    refine g_bipush (pc' := 23) (v := (9 : Int32)) hc rfl zkb_9 rfl ?_
    refine g_aload_n (pc' := 24)  hc rfl rfl rfl rfl ?_
    refine z_getR (pc' := 27)  hc rfl rfl rfl sh_19 rfl rfl ?_
    refine g_aload_n (pc' := 28)  hc rfl rfl rfl rfl ?_
    refine z_getR (pc' := 31)  hc rfl rfl rfl sh_51 rfl rfl ?_
    refine z_virt (as := [.ref 52]) (a := 28) (r := [.int (9 : Int32), .int (0 : Int32)]) hc rfl rfl rfl rfl sh_28 rfl zco_45 rfl rfl rfl ?_
    refine ok_X5_value_28_52 (zdp hd rfl) (zwp_mono (zwp_bind h) ?_)
    rintro ⟨r7, o6⟩ h
    refine z_po (pc' := 34) (st' := [.int r7, .int (9 : Int32), .int (0 : Int32)]) (v := (some (.int r7))) (L' := [(29, none, o6), (33, none, (I 33)), (52, none, o5)]) (K' := []) zco_45 rfl rfl rfl rfl rfl rfl rfl rfl ?_
    refine z_min (pc' := 37)  hc rfl rfl (zdq hd rfl) rfl rfl ?_
    refine z_max (pc' := 40)  hc rfl rfl (zdq hd rfl) rfl rfl ?_
    refine g_istore (pc' := 42) (ls1 := [some (.ref 51), some (.ref 19), some (.ref 31), some (.int a3), some (.int (if (0 : Int32) < (if r7 < (9 : Int32) then r7 else (9 : Int32)) then (if r7 < (9 : Int32) then r7 else (9 : Int32)) else (0 : Int32)))]) hc rfl (zlt rfl) rfl rfl ?_
    replace h := zws h
    exact h
set_option maxRecDepth 4000 in
theorem ok_X5_value_25_52 {p q : Nat} {I : pI} {J : pJ} {Q : pQ} {d : Nat} (hd : 2 ≤ d) (h : zwp (f_X5_value 6 (I 52) (I 27) (I 25 2) (I 26)) (fun w => match w with | (r, o0) => Q (.inl (some (.int r))) (zS p q I [(26, none, o0)] J []))) : pm_call M cost zext d 45 [.ref 25, .ref 52] (pm_st 108 (shp p q) I J) Q := by
  obtain ⟨d, rfl⟩ := zd1 hd rfl
  have hc := pm_call_m (M := M) (cost := cost) zext_m d
  refine z_in (L := [(26, none, (I 26))]) (K := []) (ls := [some (.ref 25), some (.ref 52), none, none, none]) zmt_45 zco_45 rfl rfl (zid_a zid_n) zid_n ?_
  delta f_X5_value at h
  refine g_iconst (pc' := 1) (v := (-1 : Int32)) hc rfl zki_m1 rfl ?_
  refine g_istore_n (pc' := 2) (ls1 := [some (.ref 25), some (.ref 52), some (.int (-1 : Int32)), none, none]) hc rfl (zlt rfl) rfl rfl ?_
  refine g_iconst (pc' := 3) (v := (0 : Int32)) hc rfl zki_0 rfl ?_
  refine g_istore_n (pc' := 4) (ls1 := [some (.ref 25), some (.ref 52), some (.int (-1 : Int32)), some (.int (0 : Int32)), none]) hc rfl (zlt rfl) rfl rfl ?_
  refine zjn (G := (fun (g : Int32 × (Nat → Int32)) => match g with | (y5, y8) => ∀ z6 : Option Value, znl z6 = true → ∀ z7 : Option Value, znl z7 = true → pm_ev C_X5_value (d + 1) (pm_call M cost zext d) cost (false, false) 108 0 0 Q 139 [some (.ref 25), some (.ref 52), some (.int y5), z6, z7] [] 0 0 (zS p q I [(26, none, y8)] J []))) (zwp_bind h) ?_ (fun h => ?_)
  · rintro ⟨y5, y8⟩ h z6 hz6 z7 hz7
    refine g_iload_n (pc' := 140)  hc rfl rfl rfl ?_
    refine g_if_lt (pc' := 143) hc rfl rfl (fun hx => ?_) (fun hx => ?_)
    · replace h := zwp_t h hx
      refine g_iconst (pc' := 153) (v := (0 : Int32)) hc rfl zki_0 rfl ?_
      replace h := zws h
      exact g_ireturn hc rfl rfl rfl (fun _ => ⟨rfl, rfl⟩) h
    · replace h := zwp_f h hx
      refine g_aload_n (pc' := 144)  hc rfl rfl rfl rfl ?_
      refine z_getR (pc' := 147)  hc rfl rfl rfl sh_25 rfl rfl ?_
      refine g_iload_n (pc' := 148)  hc rfl rfl rfl ?_
      have hb := (zwp_bnd h).1
      replace h := (zwp_bnd h).2
      refine z_iaload (pc' := 149) (v := (y8 y5.toNatClampNeg)) hc rfl rfl sh_26 hb rfl rfl ?_
      refine g_goto hc rfl ?_
      replace h := zws h
      exact g_ireturn hc rfl rfl rfl (fun _ => ⟨rfl, rfl⟩) h
  refine zitr_ev (G := (fun (g : Int32 × Int32 × (Nat → Int32)) => match g with | (x1, x2, x4) => ∀ z3 : Option Value, znl z3 = true → pm_ev C_X5_value (d + 1) (pm_call M cost zext d) cost (false, false) 108 0 0 Q 4 [some (.ref 25), some (.ref 52), some (.int x1), some (.int x2), z3] [] 0 0 (zS p q I [(26, none, x4)] J []))) ?_ zFU ((-1 : Int32), (0 : Int32), (I 26)) h none rfl
  rintro ⟨x1, x2, x4⟩ h z3 hz3
  refine g_iload_n (pc' := 5)  hc rfl rfl rfl ?_
  refine g_aload_n (pc' := 6)  hc rfl rfl rfl rfl ?_
  refine z_getI (pc' := 9) (v := (I 25 2)) hc rfl rfl rfl sh_25 rfl rfl rfl ?_
  refine g_icmp_ge (pc' := 12) hc rfl rfl (fun hx => ?_) (fun hx => ?_)
  · replace h := zwp_t h hx
    replace h := zwp_r h
    exact h (some (.int x2)) rfl z3 hz3
  · replace h := zwp_f h hx
    refine g_aload_n (pc' := 13)  hc rfl rfl rfl rfl ?_
    refine z_getR (pc' := 16)  hc rfl rfl rfl sh_25 rfl rfl ?_
    refine g_iload_n (pc' := 17)  hc rfl rfl rfl ?_
    have hb := (zwp_bnd h).1
    replace h := (zwp_bnd h).2
    refine z_iaload (pc' := 18) (v := (((I 27)) x2.toNatClampNeg)) hc rfl rfl sh_27 hb rfl rfl ?_
    refine g_istore (pc' := 20) (ls1 := [some (.ref 25), some (.ref 52), some (.int x1), some (.int x2), some (.int (((I 27)) x2.toNatClampNeg))]) hc rfl (zlt rfl) rfl rfl ?_
    refine g_iload (pc' := 22)  hc rfl rfl rfl ?_
    refine g_bipush (pc' := 24) (v := (-6 : Int32)) hc rfl zkb_m6 rfl ?_
    refine g_icmp_lt (pc' := 27) hc rfl rfl (fun hx => ?_) (fun hx => ?_)
    · replace h := zwp_t h hx
      refine g_iload (pc' := 68)  hc rfl rfl rfl ?_
      refine g_bipush (pc' := 70) (v := (-13 : Int32)) hc rfl zkb_m13 rfl ?_
      refine g_icmp_ne (pc' := 73) hc rfl rfl (fun hx => ?_) (fun hx => ?_)
      · replace h := zwp_f h hx
        refine g_iload_n (pc' := 101)  hc rfl rfl rfl ?_
        refine g_iconst (pc' := 102) (v := (1 : Int32)) hc rfl zki_1 rfl ?_
        refine g_icmp_lt (pc' := 105) hc rfl rfl (fun hx => ?_) (fun hx => ?_)
        · replace h := zwp_t h hx
          refine g_iinc (pc' := 136) (ls1 := [some (.ref 25), some (.ref 52), some (.int x1), some (.int (x2 + (1 : Int32))), some (.int (((I 27)) x2.toNatClampNeg))]) hc rfl rfl zki_1 (zlt rfl) rfl rfl ?_
          refine g_goto hc rfl ?_
          replace h := zwp_l h
          exact h (some (.int (((I 27)) x2.toNatClampNeg))) rfl
        · replace h := zwp_f h hx
          refine g_iinc (pc' := 108) (ls1 := [some (.ref 25), some (.ref 52), some (.int (x1 + (-1 : Int32))), some (.int x2), some (.int (((I 27)) x2.toNatClampNeg))]) hc rfl rfl zki_m1 (zlt rfl) rfl rfl ?_
          refine g_aload_n (pc' := 109)  hc rfl rfl rfl rfl ?_
          refine z_getR (pc' := 112)  hc rfl rfl rfl sh_25 rfl rfl ?_
          refine g_iload_n (pc' := 113)  hc rfl rfl rfl ?_
          refine g_iload (pc' := 115)  hc rfl rfl rfl ?_
          refine g_aload_n (pc' := 116)  hc rfl rfl rfl rfl ?_
          refine z_getR (pc' := 119)  hc rfl rfl rfl sh_25 rfl rfl ?_
          refine g_iload_n (pc' := 120)  hc rfl rfl rfl ?_
          have hb := (zwp_bnd h).1
          replace h := (zwp_bnd h).2
          refine z_iaload (pc' := 121) (v := (x4 (x1 + (-1 : Int32)).toNatClampNeg)) hc rfl rfl sh_26 hb rfl rfl ?_
          refine g_aload_n (pc' := 122)  hc rfl rfl rfl rfl ?_
          refine z_getR (pc' := 125)  hc rfl rfl rfl sh_25 rfl rfl ?_
          refine g_iload_n (pc' := 126)  hc rfl rfl rfl ?_
          refine g_iconst (pc' := 127) (v := (1 : Int32)) hc rfl zki_1 rfl ?_
          refine g_iadd (pc' := 128)  hc rfl rfl ?_
          have hb := (zwp_bnd h).1
          replace h := (zwp_bnd h).2
          refine z_iaload (pc' := 129) (v := (x4 ((x1 + (-1 : Int32)) + (1 : Int32)).toNatClampNeg)) hc rfl rfl sh_26 hb rfl rfl ?_
          refine z_stat (as := [.int (((I 27)) x2.toNatClampNeg), .int (x4 (x1 + (-1 : Int32)).toNatClampNeg), .int (x4 ((x1 + (-1 : Int32)) + (1 : Int32)).toNatClampNeg)]) (r := [.int (x1 + (-1 : Int32)), .ref 26]) hc rfl rfl rfl rfl zco_46 rfl rfl rfl ?_
          refine ok_X5_join (zdp hd rfl) (zwp_mono (zwp_bind h) ?_)
          rintro r9 h
          refine z_po (pc' := 132) (st' := [.int r9, .int (x1 + (-1 : Int32)), .ref 26]) (v := (some (.int r9))) (L' := [(26, none, x4)]) (K' := []) zco_46 rfl rfl rfl rfl rfl rfl rfl rfl ?_
          have hb := (zwp_bnd h).1
          replace h := (zwp_bnd h).2
          refine z_iastore (pc' := 133) (g := x4) (L' := [(26, none, (upd x4 (x1 + (-1 : Int32)).toNatClampNeg r9))]) hc rfl rfl sh_26 hb rfl rfl rfl rfl ?_
          refine g_iinc (pc' := 136) (ls1 := [some (.ref 25), some (.ref 52), some (.int (x1 + (-1 : Int32))), some (.int (x2 + (1 : Int32))), some (.int (((I 27)) x2.toNatClampNeg))]) hc rfl rfl zki_1 (zlt rfl) rfl rfl ?_
          refine g_goto hc rfl ?_
          replace h := zwp_l h
          exact h (some (.int (((I 27)) x2.toNatClampNeg))) rfl
      · replace h := zwp_t h hx
        refine g_iload_n (pc' := 74)  hc rfl rfl rfl ?_
        refine g_if_lt (pc' := 77) hc rfl rfl (fun hx => ?_) (fun hx => ?_)
        · replace h := zwp_t h hx
          refine g_iinc (pc' := 136) (ls1 := [some (.ref 25), some (.ref 52), some (.int x1), some (.int (x2 + (1 : Int32))), some (.int (((I 27)) x2.toNatClampNeg))]) hc rfl rfl zki_1 (zlt rfl) rfl rfl ?_
          refine g_goto hc rfl ?_
          replace h := zwp_l h
          exact h (some (.int (((I 27)) x2.toNatClampNeg))) rfl
        · replace h := zwp_f h hx
          refine g_aload_n (pc' := 78)  hc rfl rfl rfl rfl ?_
          refine z_getR (pc' := 81)  hc rfl rfl rfl sh_25 rfl rfl ?_
          refine g_iload_n (pc' := 82)  hc rfl rfl rfl ?_
          refine g_aload_n (pc' := 83)  hc rfl rfl rfl rfl ?_
          refine z_getR (pc' := 86)  hc rfl rfl rfl sh_25 rfl rfl ?_
          refine g_iload_n (pc' := 87)  hc rfl rfl rfl ?_
          have hb := (zwp_bnd h).1
          replace h := (zwp_bnd h).2
          refine z_iaload (pc' := 88) (v := (x4 x1.toNatClampNeg)) hc rfl rfl sh_26 hb rfl rfl ?_
          refine zjn (G := (fun (j10 : Int32) => pm_ev C_X5_value (d + 1) (pm_call M cost zext d) cost (false, false) 108 0 0 Q 96 [some (.ref 25), some (.ref 52), some (.int x1), some (.int x2), some (.int (((I 27)) x2.toNatClampNeg))] [.int j10, .int x1, .ref 26] 0 0 (zS p q I [(26, none, x4)] J []))) (zwp_bind h) ?_ (fun h => ?_)
          · rintro j10 h
            have hb := (zwp_bnd h).1
            replace h := (zwp_bnd h).2
            refine z_iastore (pc' := 97) (g := x4) (L' := [(26, none, (upd x4 x1.toNatClampNeg j10))]) hc rfl rfl sh_26 hb rfl rfl rfl rfl ?_
            refine g_goto hc rfl ?_
            refine g_iinc (pc' := 136) (ls1 := [some (.ref 25), some (.ref 52), some (.int x1), some (.int (x2 + (1 : Int32))), some (.int (((I 27)) x2.toNatClampNeg))]) hc rfl rfl zki_1 (zlt rfl) rfl rfl ?_
            refine g_goto hc rfl ?_
            replace h := zwp_l h
            exact h (some (.int (((I 27)) x2.toNatClampNeg))) rfl
          refine g_if_ne (pc' := 91) hc rfl rfl (fun hx => ?_) (fun hx => ?_)
          · replace h := zwp_f h hx
            refine g_iconst (pc' := 96) (v := (0 : Int32)) hc rfl zki_0 rfl ?_
            replace h := zws h
            exact h
          · replace h := zwp_t h hx
            refine g_iconst (pc' := 92) (v := (1 : Int32)) hc rfl zki_1 rfl ?_
            refine g_goto hc rfl ?_
            replace h := zws h
            exact h
    · replace h := zwp_f h hx
      refine g_iload_n (pc' := 28)  hc rfl rfl rfl ?_
      refine g_iconst (pc' := 29) (v := (1 : Int32)) hc rfl zki_1 rfl ?_
      refine g_iadd (pc' := 30)  hc rfl rfl ?_
      refine g_aload_n (pc' := 31)  hc rfl rfl rfl rfl ?_
      refine z_getR (pc' := 34)  hc rfl rfl rfl sh_25 rfl rfl ?_
      refine z_alen (pc' := 35) (v := (48 : Int32)) hc rfl rfl sh_26 ⟨by decide, by decide⟩ zkn_48 rfl ?_
      refine g_icmp_ge (pc' := 38) hc rfl rfl (fun hx => ?_) (fun hx => ?_)
      · replace h := zwp_t h hx
        refine g_iinc (pc' := 136) (ls1 := [some (.ref 25), some (.ref 52), some (.int x1), some (.int (x2 + (1 : Int32))), some (.int (((I 27)) x2.toNatClampNeg))]) hc rfl rfl zki_1 (zlt rfl) rfl rfl ?_
        refine g_goto hc rfl ?_
        replace h := zwp_l h
        exact h (some (.int (((I 27)) x2.toNatClampNeg))) rfl
      · replace h := zwp_f h hx
        refine g_iinc (pc' := 41) (ls1 := [some (.ref 25), some (.ref 52), some (.int (x1 + (1 : Int32))), some (.int x2), some (.int (((I 27)) x2.toNatClampNeg))]) hc rfl rfl zki_1 (zlt rfl) rfl rfl ?_
        refine g_aload_n (pc' := 42)  hc rfl rfl rfl rfl ?_
        refine z_getR (pc' := 45)  hc rfl rfl rfl sh_25 rfl rfl ?_
        refine g_iload_n (pc' := 46)  hc rfl rfl rfl ?_
        refine g_iload (pc' := 48)  hc rfl rfl rfl ?_
        refine zjn (G := (fun (j11 : Int32) => pm_ev C_X5_value (d + 1) (pm_call M cost zext d) cost (false, false) 108 0 0 Q 62 [some (.ref 25), some (.ref 52), some (.int (x1 + (1 : Int32))), some (.int x2), some (.int (((I 27)) x2.toNatClampNeg))] [.int j11, .int (x1 + (1 : Int32)), .ref 26] 0 0 (zS p q I [(26, none, x4)] J []))) (zwp_bind h) ?_ (fun h => ?_)
        · rintro j11 h
          have hb := (zwp_bnd h).1
          replace h := (zwp_bnd h).2
          refine z_iastore (pc' := 63) (g := x4) (L' := [(26, none, (upd x4 (x1 + (1 : Int32)).toNatClampNeg j11))]) hc rfl rfl sh_26 hb rfl rfl rfl rfl ?_
          refine g_goto hc rfl ?_
          refine g_iinc (pc' := 136) (ls1 := [some (.ref 25), some (.ref 52), some (.int (x1 + (1 : Int32))), some (.int (x2 + (1 : Int32))), some (.int (((I 27)) x2.toNatClampNeg))]) hc rfl rfl zki_1 (zlt rfl) rfl rfl ?_
          refine g_goto hc rfl ?_
          replace h := zwp_l h
          exact h (some (.int (((I 27)) x2.toNatClampNeg))) rfl
        refine g_if_lt (pc' := 51) hc rfl rfl (fun hx => ?_) (fun hx => ?_)
        · replace h := zwp_t h hx
          refine g_aload_n (pc' := 57)  hc rfl rfl rfl rfl ?_
          refine g_iconst (pc' := 58) (v := (-1 : Int32)) hc rfl zki_m1 rfl ?_
          refine g_iload (pc' := 60)  hc rfl rfl rfl ?_
          refine g_isub (pc' := 61)  hc rfl rfl ?_
          have hb := (zwp_bnd h).1
          replace h := (zwp_bnd h).2
          refine z_iaload (pc' := 62) (v := (((I 52)) ((-1 : Int32) - (((I 27)) x2.toNatClampNeg)).toNatClampNeg)) hc rfl rfl sh_52 hb rfl rfl ?_
          replace h := zws h
          exact h
        · replace h := zwp_f h hx
          refine g_iload (pc' := 53)  hc rfl rfl rfl ?_
          refine g_goto hc rfl ?_
          replace h := zws h
          exact h
set_option maxRecDepth 4000 in
theorem ok_X2_wantsToGo_51_19_31 {p q : Nat} {I : pI} {J : pJ} {a3 : Int32} {Q : pQ} {d : Nat} (hd : 3 ≤ d) (h : zwp (f_X2_wantsToGo a3 (I 27) (I 25 2) (I 26) (I 24) (I 19 9) (I 21) (I 22) (I 32) (I 31 3) (I 34) (I 31 0) (I 35) (I 33) (I 52)) (fun w => match w with | (r, o0, o1) => Q (.inl (some (.int r))) (zS p q I [(26, none, o0), (52, none, o1)] J []))) : pm_call M cost zext d 16 [.ref 51, .ref 19, .ref 31, .int a3] (pm_st 108 (shp p q) I J) Q := by
  obtain ⟨d, rfl⟩ := zd1 hd rfl
  have hc := pm_call_m (M := M) (cost := cost) zext_m d
  refine z_in (L := [(26, none, (I 26)), (52, none, (I 52))]) (K := []) (ls := [some (.ref 51), some (.ref 19), some (.ref 31), some (.int a3)]) zmt_16 zco_16 rfl rfl (zid_a (zid_a zid_n)) zid_n ?_
  delta f_X2_wantsToGo at h
  refine g_aload_n (pc' := 1)  hc rfl rfl rfl rfl ?_
  refine z_getR (pc' := 4)  hc rfl rfl rfl sh_19 rfl rfl ?_
  refine z_virt (as := []) (a := 25) (r := []) hc rfl rfl rfl rfl sh_25 rfl zco_43 rfl rfl rfl ?_
  refine ok_X5_isTold_25 (zdp hd rfl) (zwp_mono (zwp_bind h) ?_)
  rintro r1 h
  refine z_po (pc' := 7) (st' := [.int r1]) (v := (some (.int r1))) (L' := [(26, none, (I 26)), (52, none, (I 52))]) (K' := []) zco_43 rfl rfl rfl rfl rfl rfl rfl rfl ?_
  refine g_if_ne (pc' := 10) hc rfl rfl (fun hx => ?_) (fun hx => ?_)
  · replace h := zwp_f h hx
    refine g_aload_n (pc' := 28)  hc rfl rfl rfl rfl ?_
    refine g_aload_n (pc' := 29)  hc rfl rfl rfl rfl ?_
    refine g_aload_n (pc' := 30)  hc rfl rfl rfl rfl ?_
    refine g_iload_n (pc' := 31)  hc rfl rfl rfl ?_
    refine z_virt (as := [.ref 19, .ref 31, .int a3]) (a := 51) (r := []) hc rfl rfl rfl rfl sh_51 rfl zco_18 rfl rfl rfl ?_
    refine ok_X2_setValues_51_19_31 (zdp hd rfl) (zwp_mono (zwp_bind h) ?_)
    rintro o2 h
    refine z_po (pc' := 34) (st' := []) (v := none) (L' := [(26, none, (I 26)), (52, none, o2)]) (K' := []) zco_18 rfl rfl rfl rfl rfl rfl rfl rfl ?_
    refine g_aload_n (pc' := 35)  hc rfl rfl rfl rfl ?_
    refine z_getR (pc' := 38)  hc rfl rfl rfl sh_19 rfl rfl ?_
    refine g_aload_n (pc' := 39)  hc rfl rfl rfl rfl ?_
    refine z_getR (pc' := 42)  hc rfl rfl rfl sh_51 rfl rfl ?_
    refine z_virt (as := [.ref 52]) (a := 25) (r := []) hc rfl rfl rfl rfl sh_25 rfl zco_45 rfl rfl rfl ?_
    refine ok_X5_value_25_52 (zdp hd rfl) (zwp_mono (zwp_bind h) ?_)
    rintro ⟨r4, o3⟩ h
    refine z_po (pc' := 45) (st' := [.int r4]) (v := (some (.int r4))) (L' := [(26, none, o3), (52, none, o2)]) (K' := []) zco_45 rfl rfl rfl rfl rfl rfl rfl rfl ?_
    refine g_if_le (pc' := 48) hc rfl rfl (fun hx => ?_) (fun hx => ?_)
    · replace h := zwp_t h hx
      refine g_iconst (pc' := 53) (v := (0 : Int32)) hc rfl zki_0 rfl ?_
      replace h := zws h
      exact g_ireturn hc rfl rfl rfl (fun _ => ⟨rfl, rfl⟩) h
    · replace h := zwp_f h hx
      refine g_iconst (pc' := 49) (v := (1 : Int32)) hc rfl zki_1 rfl ?_
      refine g_goto hc rfl ?_
      replace h := zws h
      exact g_ireturn hc rfl rfl rfl (fun _ => ⟨rfl, rfl⟩) h
  · replace h := zwp_t h hx
    refine g_aload_n (pc' := 11)  hc rfl rfl rfl rfl ?_
    refine z_getR (pc' := 14)  hc rfl rfl rfl sh_31 rfl rfl ?_
    refine g_iload_n (pc' := 15)  hc rfl rfl rfl ?_
    have hb := (zwp_bnd h).1
    replace h := (zwp_bnd h).2
    refine z_iaload (pc' := 16) (v := (((I 33)) a3.toNatClampNeg)) hc rfl rfl sh_33 hb rfl rfl ?_
    refine g_bipush (pc' := 18) (v := (10 : Int32)) hc rfl zkb_10 rfl ?_
    refine g_icmp_ge (pc' := 21) hc rfl rfl (fun hx => ?_) (fun hx => ?_)
    · replace h := zwp_t h hx
      refine g_iconst (pc' := 26) (v := (0 : Int32)) hc rfl zki_0 rfl ?_
      replace h := zws h
      exact g_ireturn hc rfl rfl rfl (fun _ => ⟨rfl, rfl⟩) h
    · replace h := zwp_f h hx
      refine g_iconst (pc' := 22) (v := (1 : Int32)) hc rfl zki_1 rfl ?_
      refine g_goto hc rfl ?_
      replace h := zws h
      exact g_ireturn hc rfl rfl rfl (fun _ => ⟨rfl, rfl⟩) h
set_option maxRecDepth 4000 in
theorem ok_X3_beside_19 {p q : Nat} {I : pI} {J : pJ} {a1 : Int32} {a2 : Int32} {Q : pQ} {d : Nat} (hd : 2 ≤ d) (h : zwp (f_X3_beside a1 a2 (I 19 1) (I 19 0)) (fun r => Q (.inl (some (.int r))) (zS p q I [] J []))) : pm_call M cost zext d 28 [.ref 19, .int a1, .int a2] (pm_st 108 (shp p q) I J) Q := by
  obtain ⟨d, rfl⟩ := zd1 hd rfl
  have hc := pm_call_m (M := M) (cost := cost) zext_m d
  refine z_in (L := []) (K := []) (ls := [some (.ref 19), some (.int a1), some (.int a2), none]) zmt_28 zco_28 rfl rfl zid_n zid_n ?_
  delta f_X3_beside at h
  refine g_aload_n (pc' := 1)  hc rfl rfl rfl rfl ?_
  refine z_getI (pc' := 4) (v := (I 19 0)) hc rfl rfl rfl sh_19 rfl rfl rfl ?_
  refine zjn (G := (fun (j1 : Int32) => pm_ev C_X3_beside (d + 1) (pm_call M cost zext d) cost (false, false) 108 0 0 Q 17 [some (.ref 19), some (.int a1), some (.int a2), none] [.int j1] 0 0 (zS p q I [] J []))) (zwp_bind h) ?_ (fun h => ?_)
  · rintro j1 h
    refine g_istore_n (pc' := 18) (ls1 := [some (.ref 19), some (.int a1), some (.int a2), some (.int j1)]) hc rfl (zlt rfl) rfl rfl ?_
    refine g_iload_n (pc' := 19)  hc rfl rfl rfl ?_
    by_cases hx2 : a2 = (0 : Int32)
    · replace h := zwp_t h hx2
      refine z_switch (pc' := 48) hc rfl (by rw [hx2]; decide +kernel) ?_
      refine g_iload_n (pc' := 49)  hc rfl rfl rfl ?_
      replace h := zws h
      exact g_ireturn hc rfl rfl rfl (fun _ => ⟨rfl, rfl⟩) h
    replace h := zwp_f h hx2
    by_cases hx3 : a2 = (1 : Int32)
    · replace h := zwp_t h hx3
      refine z_switch (pc' := 50) hc rfl (by rw [hx3]; decide +kernel) ?_
      refine g_iload_n (pc' := 51)  hc rfl rfl rfl ?_
      refine g_aload_n (pc' := 52)  hc rfl rfl rfl rfl ?_
      refine z_getI (pc' := 55) (v := (I 19 0)) hc rfl rfl rfl sh_19 rfl rfl rfl ?_
      refine g_icmp_lt (pc' := 58) hc rfl rfl (fun hx => ?_) (fun hx => ?_)
      · replace h := zwp_t h hx
        refine g_iconst (pc' := 68) (v := (-1 : Int32)) hc rfl zki_m1 rfl ?_
        replace h := zws h
        exact g_ireturn hc rfl rfl rfl (fun _ => ⟨rfl, rfl⟩) h
      · replace h := zwp_f h hx
        refine g_iload_n (pc' := 59)  hc rfl rfl rfl ?_
        refine g_aload_n (pc' := 60)  hc rfl rfl rfl rfl ?_
        refine z_getI (pc' := 63) (v := (I 19 0)) hc rfl rfl rfl sh_19 rfl rfl rfl ?_
        refine g_isub (pc' := 64)  hc rfl rfl ?_
        refine g_goto hc rfl ?_
        replace h := zws h
        exact g_ireturn hc rfl rfl rfl (fun _ => ⟨rfl, rfl⟩) h
    replace h := zwp_f h hx3
    by_cases hx4 : a2 = (2 : Int32)
    · replace h := zwp_t h hx4
      refine z_switch (pc' := 69) hc rfl (by rw [hx4]; decide +kernel) ?_
      refine g_iload_n (pc' := 70)  hc rfl rfl rfl ?_
      refine g_iconst (pc' := 71) (v := (1 : Int32)) hc rfl zki_1 rfl ?_
      refine g_iadd (pc' := 72)  hc rfl rfl ?_
      refine g_aload_n (pc' := 73)  hc rfl rfl rfl rfl ?_
      refine z_getI (pc' := 76) (v := (I 19 0)) hc rfl rfl rfl sh_19 rfl rfl rfl ?_
      refine g_icmp_ge (pc' := 79) hc rfl rfl (fun hx => ?_) (fun hx => ?_)
      · replace h := zwp_t h hx
        refine g_iconst (pc' := 86) (v := (-1 : Int32)) hc rfl zki_m1 rfl ?_
        replace h := zws h
        exact g_ireturn hc rfl rfl rfl (fun _ => ⟨rfl, rfl⟩) h
      · replace h := zwp_f h hx
        refine g_iload_n (pc' := 80)  hc rfl rfl rfl ?_
        refine g_iconst (pc' := 81) (v := (1 : Int32)) hc rfl zki_1 rfl ?_
        refine g_iadd (pc' := 82)  hc rfl rfl ?_
        refine g_goto hc rfl ?_
        replace h := zws h
        exact g_ireturn hc rfl rfl rfl (fun _ => ⟨rfl, rfl⟩) h
    replace h := zwp_f h hx4
    by_cases hx5 : a2 = (3 : Int32)
    · replace h := zwp_t h hx5
      refine z_switch (pc' := 87) hc rfl (by rw [hx5]; decide +kernel) ?_
      refine g_iload_n (pc' := 88)  hc rfl rfl rfl ?_
      refine g_aload_n (pc' := 89)  hc rfl rfl rfl rfl ?_
      refine z_getI (pc' := 92) (v := (I 19 0)) hc rfl rfl rfl sh_19 rfl rfl rfl ?_
      refine g_iadd (pc' := 93)  hc rfl rfl ?_
      refine g_aload_n (pc' := 94)  hc rfl rfl rfl rfl ?_
      refine z_virt (as := []) (a := 19) (r := [.int (a1 + ((I 19 0)))]) hc rfl rfl rfl rfl sh_19 rfl zco_21 rfl rfl rfl ?_
      refine ok_X3_cells_19 (zdp hd rfl) (zwp_mono (zwp_bind h) ?_)
      rintro r6 h
      refine z_po (pc' := 97) (st' := [.int r6, .int (a1 + ((I 19 0)))]) (v := (some (.int r6))) (L' := []) (K' := []) zco_21 rfl rfl rfl rfl rfl rfl rfl rfl ?_
      refine g_icmp_ge (pc' := 100) hc rfl rfl (fun hx => ?_) (fun hx => ?_)
      · replace h := zwp_t h hx
        refine g_iconst (pc' := 110) (v := (-1 : Int32)) hc rfl zki_m1 rfl ?_
        replace h := zws h
        exact g_ireturn hc rfl rfl rfl (fun _ => ⟨rfl, rfl⟩) h
      · replace h := zwp_f h hx
        refine g_iload_n (pc' := 101)  hc rfl rfl rfl ?_
        refine g_aload_n (pc' := 102)  hc rfl rfl rfl rfl ?_
        refine z_getI (pc' := 105) (v := (I 19 0)) hc rfl rfl rfl sh_19 rfl rfl rfl ?_
        refine g_iadd (pc' := 106)  hc rfl rfl ?_
        refine g_goto hc rfl ?_
        replace h := zws h
        exact g_ireturn hc rfl rfl rfl (fun _ => ⟨rfl, rfl⟩) h
    replace h := zwp_f h hx5
    refine z_switch (pc' := 111) hc rfl (zsw_df (told := [(0 : Int32), (1 : Int32), (2 : Int32), (3 : Int32)]) (by decide +kernel) (by decide) rfl (zne_c hx2 (zne_c hx3 (zne_c hx4 (zne_c hx5 zne_n))))) ?_
    refine g_iload_n (pc' := 112)  hc rfl rfl rfl ?_
    refine g_if_le (pc' := 115) hc rfl rfl (fun hx => ?_) (fun hx => ?_)
    · replace h := zwp_t h hx
      refine g_iconst (pc' := 122) (v := (-1 : Int32)) hc rfl zki_m1 rfl ?_
      replace h := zws h
      exact g_ireturn hc rfl rfl rfl (fun _ => ⟨rfl, rfl⟩) h
    · replace h := zwp_f h hx
      refine g_iload_n (pc' := 116)  hc rfl rfl rfl ?_
      refine g_iconst (pc' := 117) (v := (1 : Int32)) hc rfl zki_1 rfl ?_
      refine g_isub (pc' := 118)  hc rfl rfl ?_
      refine g_goto hc rfl ?_
      replace h := zws h
      exact g_ireturn hc rfl rfl rfl (fun _ => ⟨rfl, rfl⟩) h
  refine g_if_le (pc' := 7) hc rfl rfl (fun hx => ?_) (fun hx => ?_)
  · replace h := zwp_t h hx
    refine g_iconst (pc' := 17) (v := (0 : Int32)) hc rfl zki_0 rfl ?_
    replace h := zws h
    exact h
  · replace h := zwp_f h hx
    refine g_iload_n (pc' := 8)  hc rfl rfl rfl ?_
    refine g_aload_n (pc' := 9)  hc rfl rfl rfl rfl ?_
    refine z_getI (pc' := 12) (v := (I 19 0)) hc rfl rfl rfl sh_19 rfl rfl rfl ?_
    have hz := (zwp_nz h).1
    replace h := (zwp_nz h).2
    refine g_irem (pc' := 13)  hc rfl hz rfl ?_
    refine g_goto hc rfl ?_
    replace h := zws h
    exact h
set_option maxRecDepth 4000 in
theorem ok_X2_go_51_19_31 {p q : Nat} {I : pI} {J : pJ} {a3 : Int32} {Q : pQ} {d : Nat} (hd : 3 ≤ d) (h : zwp (f_X2_go a3 (I 19 1) (I 21) (I 22) (I 19 0) (I 32) (I 31 0) (I 35) (J 31 2)) (fun o0 => Q (.inl none) (zS p q I [(32, none, o0)] J []))) : pm_call M cost zext d 17 [.ref 51, .ref 19, .ref 31, .int a3] (pm_st 108 (shp p q) I J) Q := by
  obtain ⟨d, rfl⟩ := zd1 hd rfl
  have hc := pm_call_m (M := M) (cost := cost) zext_m d
  refine z_in (L := [(32, none, (I 32))]) (K := []) (ls := [some (.ref 51), some (.ref 19), some (.ref 31), some (.int a3), none]) zmt_17 zco_17 rfl rfl (zid_a zid_n) zid_n ?_
  delta f_X2_go at h
  refine g_aload_n (pc' := 1)  hc rfl rfl rfl rfl ?_
  refine g_aload_n (pc' := 2)  hc rfl rfl rfl rfl ?_
  refine z_getR (pc' := 5)  hc rfl rfl rfl sh_31 rfl rfl ?_
  refine g_iload_n (pc' := 6)  hc rfl rfl rfl ?_
  have hb := (zwp_bnd h).1
  replace h := (zwp_bnd h).2
  refine z_iaload (pc' := 7) (v := (((I 32)) a3.toNatClampNeg)) hc rfl rfl sh_32 hb rfl rfl ?_
  refine g_aload_n (pc' := 8)  hc rfl rfl rfl rfl ?_
  refine g_iload_n (pc' := 9)  hc rfl rfl rfl ?_
  refine g_aload_n (pc' := 10)  hc rfl rfl rfl rfl ?_
  refine z_getI (pc' := 13) (v := (I 31 0)) hc rfl rfl rfl sh_31 rfl rfl rfl ?_
  refine g_aload_n (pc' := 14)  hc rfl rfl rfl rfl ?_
  refine z_getR (pc' := 17)  hc rfl rfl rfl sh_31 rfl rfl ?_
  refine g_iload_n (pc' := 18)  hc rfl rfl rfl ?_
  have hb := (zwp_bnd h).1
  replace h := (zwp_bnd h).2
  refine z_iaload (pc' := 19) (v := (((I 35)) a3.toNatClampNeg)) hc rfl rfl sh_35 hb rfl rfl ?_
  refine g_iadd (pc' := 20)  hc rfl rfl ?_
  refine z_virt (as := [.int a3, .int (((I 31 0)) + (((I 35)) a3.toNatClampNeg))]) (a := 19) (r := [.int (((I 32)) a3.toNatClampNeg), .ref 19]) hc rfl rfl rfl rfl sh_19 rfl zco_24 rfl rfl rfl ?_
  refine ok_X3_stepOf_19 (zdp hd rfl) (zwp_mono (zwp_bind h) ?_)
  rintro r1 h
  refine z_po (pc' := 23) (st' := [.int r1, .int (((I 32)) a3.toNatClampNeg), .ref 19]) (v := (some (.int r1))) (L' := [(32, none, (I 32))]) (K' := []) zco_24 rfl rfl rfl rfl rfl rfl rfl rfl ?_
  refine z_virt (as := [.int (((I 32)) a3.toNatClampNeg), .int r1]) (a := 19) (r := []) hc rfl rfl rfl rfl sh_19 rfl zco_28 rfl rfl rfl ?_
  refine ok_X3_beside_19 (zdp hd rfl) (zwp_mono (zwp_bind h) ?_)
  rintro r2 h
  refine z_po (pc' := 26) (st' := [.int r2]) (v := (some (.int r2))) (L' := [(32, none, (I 32))]) (K' := []) zco_28 rfl rfl rfl rfl rfl rfl rfl rfl ?_
  refine g_istore (pc' := 28) (ls1 := [some (.ref 51), some (.ref 19), some (.ref 31), some (.int a3), some (.int r2)]) hc rfl (zlt rfl) rfl rfl ?_
  refine g_iload (pc' := 30)  hc rfl rfl rfl ?_
  refine g_iconst (pc' := 31) (v := (-1 : Int32)) hc rfl zki_m1 rfl ?_
  refine g_icmp_eq (pc' := 34) hc rfl rfl (fun hx => ?_) (fun hx => ?_)
  · replace h := zwp_t h hx
    replace h := zws h
    exact g_return hc rfl rfl (fun _ => ⟨rfl, rfl⟩) h
  · replace h := zwp_f h hx
    refine g_aload_n (pc' := 35)  hc rfl rfl rfl rfl ?_
    refine g_iload (pc' := 37)  hc rfl rfl rfl ?_
    refine z_virt (as := [.int r2]) (a := 31) (r := []) hc rfl rfl rfl rfl sh_31 rfl zco_71 rfl rfl rfl ?_
    refine ok_X8_isWall_31 (zdp hd rfl) (zwp_mono (zwp_bind h) ?_)
    rintro r3 h
    refine z_po (pc' := 40) (st' := [.int r3]) (v := (some (.int r3))) (L' := [(32, none, (I 32))]) (K' := []) zco_71 rfl rfl rfl rfl rfl rfl rfl rfl ?_
    refine g_if_ne (pc' := 43) hc rfl rfl (fun hx => ?_) (fun hx => ?_)
    · replace h := zwp_f h hx
      replace h := zws h
      exact g_return hc rfl rfl (fun _ => ⟨rfl, rfl⟩) h
    · replace h := zwp_t h hx
      refine g_aload_n (pc' := 44)  hc rfl rfl rfl rfl ?_
      refine z_getR (pc' := 47)  hc rfl rfl rfl sh_31 rfl rfl ?_
      refine g_iload_n (pc' := 48)  hc rfl rfl rfl ?_
      refine g_iload (pc' := 50)  hc rfl rfl rfl ?_
      have hb := (zwp_bnd h).1
      replace h := (zwp_bnd h).2
      refine z_iastore (pc' := 51) (g := (I 32)) (L' := [(32, none, (upd ((I 32)) a3.toNatClampNeg r2))]) hc rfl rfl sh_32 hb rfl rfl rfl rfl ?_
      replace h := zws h
      exact g_return hc rfl rfl (fun _ => ⟨rfl, rfl⟩) h
set_option maxRecDepth 4000 in
theorem ok_X2_passHour_51_19_31 {p q : Nat} {I : pI} {J : pJ} {a3 : Int32} {Q : pQ} {d : Nat} (hd : 4 ≤ d) (h : zwp (f_X2_passHour a3 (I 19 3) (I 27) (I 25 2) (I 26) (I 19 1) (I 30) (I 28 2) (I 29) (I 24) (I 19 9) (I 21) (I 22) (I 19 0) (I 32) (I 31 3) (I 34) (I 31 0) (I 35) (I 33) (J 31 2) (I 52)) (fun w => match w with | (o0, o1, o2, o3, o4, o5, o6) => Q (.inl none) (zS p q I [(26, none, o0), (29, none, o1), (31, some 0, fun _ => o4), (32, none, o2), (33, none, o5), (34, none, o3), (52, none, o6)] J []))) : pm_call M cost zext d 14 [.ref 51, .ref 19, .ref 31, .int a3] (pm_st 108 (shp p q) I J) Q := by
  obtain ⟨d, rfl⟩ := zd1 hd rfl
  have hc := pm_call_m (M := M) (cost := cost) zext_m d
  refine z_in (L := [(26, none, (I 26)), (29, none, (I 29)), (31, some 0, fun _ => (I 31 0)), (32, none, (I 32)), (33, none, (I 33)), (34, none, (I 34)), (52, none, (I 52))]) (K := []) (ls := [some (.ref 51), some (.ref 19), some (.ref 31), some (.int a3), none]) zmt_14 zco_14 rfl rfl (zid_a (zid_a (zid_s (zid_a (zid_a (zid_a (zid_a zid_n))))))) zid_n ?_
  delta f_X2_passHour at h
  refine g_iconst (pc' := 1) (v := (0 : Int32)) hc rfl zki_0 rfl ?_
  refine g_istore (pc' := 3) (ls1 := [some (.ref 51), some (.ref 19), some (.ref 31), some (.int a3), some (.int (0 : Int32))]) hc rfl (zlt rfl) rfl rfl ?_
  refine zjn (G := (fun (g : (Nat → Int32) × (Nat → Int32) × (Nat → Int32) × (Nat → Int32) × (Nat → Int32)) => match g with | (y8, y9, y10, y11, y12) => ∀ z7 : Option Value, znl z7 = true → pm_ev C_X2_passHour (d + 1) (pm_call M cost zext d) cost (false, false) 108 0 0 Q 62 [some (.ref 51), some (.ref 19), some (.ref 31), some (.int a3), z7] [] 0 0 (zS p q I [(26, none, y8), (29, none, y9), (31, some 0, fun _ => (I 31 0)), (32, none, y10), (33, none, y11), (34, none, (I 34)), (52, none, y12)] J []))) (zwp_bind h) ?_ (fun h => ?_)
  · rintro ⟨y8, y9, y10, y11, y12⟩ h z7 hz7
    refine g_iconst (pc' := 63) (v := (0 : Int32)) hc rfl zki_0 rfl ?_
    refine g_istore (pc' := 65) (ls1 := [some (.ref 51), some (.ref 19), some (.ref 31), some (.int a3), some (.int (0 : Int32))]) hc rfl (zlt rfl) rfl rfl ?_
    refine zjn (G := (fun (y16 : (Nat → Int32)) => ∀ z15 : Option Value, znl z15 = true → pm_ev C_X2_passHour (d + 1) (pm_call M cost zext d) cost (false, false) 108 0 0 Q 100 [some (.ref 51), some (.ref 19), some (.ref 31), some (.int a3), z15] [] 0 0 (zS p q I [(26, none, y8), (29, none, y9), (31, some 0, fun _ => (I 31 0)), (32, none, y10), (33, none, y11), (34, none, y16), (52, none, y12)] J []))) (zwp_bind h) ?_ (fun h => ?_)
    · rintro y16 h z15 hz15
      refine g_aload_n (pc' := 101)  hc rfl rfl rfl rfl ?_
      refine g_dup (pc' := 102)  hc rfl rfl rfl ?_
      refine z_getI (pc' := 105) (v := (I 31 0)) hc rfl rfl rfl sh_31 rfl rfl rfl ?_
      refine g_iconst (pc' := 106) (v := (1 : Int32)) hc rfl zki_1 rfl ?_
      refine g_iadd (pc' := 107)  hc rfl rfl ?_
      refine z_putI (pc' := 110) (L' := [(26, none, y8), (29, none, y9), (31, some 0, fun _ => (((I 31 0)) + (1 : Int32))), (32, none, y10), (33, none, y11), (34, none, y16), (52, none, y12)]) hc rfl rfl rfl sh_31 rfl zft_8_0 rfl (fun h => Bool.noConfusion h) rfl rfl rfl ?_
      replace h := zws h
      exact g_return hc rfl rfl (fun _ => ⟨rfl, rfl⟩) h
    refine zitr_ev (G := (fun (g : Int32 × (Nat → Int32)) => match g with | (x13, x14) => pm_ev C_X2_passHour (d + 1) (pm_call M cost zext d) cost (false, false) 108 0 0 Q 65 [some (.ref 51), some (.ref 19), some (.ref 31), some (.int a3), some (.int x13)] [] 0 0 (zS p q I [(26, none, y8), (29, none, y9), (31, some 0, fun _ => (I 31 0)), (32, none, y10), (33, none, y11), (34, none, x14), (52, none, y12)] J []))) ?_ zFU ((0 : Int32), (I 34)) h
    rintro ⟨x13, x14⟩ h
    refine g_iload (pc' := 67)  hc rfl rfl rfl ?_
    refine g_aload_n (pc' := 68)  hc rfl rfl rfl rfl ?_
    refine z_getI (pc' := 71) (v := (I 19 3)) hc rfl rfl rfl sh_19 rfl rfl rfl ?_
    refine g_icmp_ge (pc' := 74) hc rfl rfl (fun hx => ?_) (fun hx => ?_)
    · replace h := zwp_t h hx
      replace h := zwp_r h
      exact h (some (.int x13)) rfl
    · replace h := zwp_f h hx
      refine g_aload_n (pc' := 75)  hc rfl rfl rfl rfl ?_
      refine z_getR (pc' := 78)  hc rfl rfl rfl sh_31 rfl rfl ?_
      refine g_iload (pc' := 80)  hc rfl rfl rfl ?_
      refine g_iconst (pc' := 81) (v := (0 : Int32)) hc rfl zki_0 rfl ?_
      refine g_aload_n (pc' := 82)  hc rfl rfl rfl rfl ?_
      refine z_getR (pc' := 85)  hc rfl rfl rfl sh_31 rfl rfl ?_
      refine g_iload (pc' := 87)  hc rfl rfl rfl ?_
      have hb := (zwp_bnd h).1
      replace h := (zwp_bnd h).2
      refine z_iaload (pc' := 88) (v := (x14 x13.toNatClampNeg)) hc rfl rfl sh_34 hb rfl rfl ?_
      refine g_iconst (pc' := 89) (v := (1 : Int32)) hc rfl zki_1 rfl ?_
      refine g_isub (pc' := 90)  hc rfl rfl ?_
      refine z_max (pc' := 93)  hc rfl rfl (zdq hd rfl) rfl rfl ?_
      have hb := (zwp_bnd h).1
      replace h := (zwp_bnd h).2
      refine z_iastore (pc' := 94) (g := x14) (L' := [(26, none, y8), (29, none, y9), (31, some 0, fun _ => (I 31 0)), (32, none, y10), (33, none, y11), (34, none, (upd x14 x13.toNatClampNeg (if (0 : Int32) < ((x14 x13.toNatClampNeg) - (1 : Int32)) then ((x14 x13.toNatClampNeg) - (1 : Int32)) else (0 : Int32)))), (52, none, y12)]) hc rfl rfl sh_34 hb rfl rfl rfl rfl ?_
      refine g_iinc (pc' := 97) (ls1 := [some (.ref 51), some (.ref 19), some (.ref 31), some (.int a3), some (.int (x13 + (1 : Int32)))]) hc rfl rfl zki_1 (zlt rfl) rfl rfl ?_
      refine g_goto hc rfl ?_
      replace h := zwp_l h
      exact h
  refine zitr_ev (G := (fun (g : Int32 × (Nat → Int32) × (Nat → Int32) × (Nat → Int32) × (Nat → Int32) × (Nat → Int32)) => match g with | (x1, x2, x3, x4, x5, x6) => pm_ev C_X2_passHour (d + 1) (pm_call M cost zext d) cost (false, false) 108 0 0 Q 3 [some (.ref 51), some (.ref 19), some (.ref 31), some (.int a3), some (.int x1)] [] 0 0 (zS p q I [(26, none, x2), (29, none, x3), (31, some 0, fun _ => (I 31 0)), (32, none, x4), (33, none, x5), (34, none, (I 34)), (52, none, x6)] J []))) ?_ zFU ((0 : Int32), (I 26), (I 29), (I 32), (I 33), (I 52)) h
  rintro ⟨x1, x2, x3, x4, x5, x6⟩ h
  refine g_iload (pc' := 5)  hc rfl rfl rfl ?_
  refine g_aload_n (pc' := 6)  hc rfl rfl rfl rfl ?_
  refine z_getI (pc' := 9) (v := (I 19 3)) hc rfl rfl rfl sh_19 rfl rfl rfl ?_
  refine g_icmp_ge (pc' := 12) hc rfl rfl (fun hx => ?_) (fun hx => ?_)
  · replace h := zwp_t h hx
    replace h := zwp_r h
    exact h (some (.int x1)) rfl
  · replace h := zwp_f h hx
    refine g_aload_n (pc' := 13)  hc rfl rfl rfl rfl ?_
    refine z_getR (pc' := 16)  hc rfl rfl rfl sh_31 rfl rfl ?_
    refine g_iload (pc' := 18)  hc rfl rfl rfl ?_
    have hb := (zwp_bnd h).1
    replace h := (zwp_bnd h).2
    refine z_iaload (pc' := 19) (v := (((I 34)) x1.toNatClampNeg)) hc rfl rfl sh_34 hb rfl rfl ?_
    refine g_if_le (pc' := 22) hc rfl rfl (fun hx => ?_) (fun hx => ?_)
    · replace h := zwp_t h hx
      refine g_aload_n (pc' := 38)  hc rfl rfl rfl rfl ?_
      refine g_aload_n (pc' := 39)  hc rfl rfl rfl rfl ?_
      refine g_aload_n (pc' := 40)  hc rfl rfl rfl rfl ?_
      refine g_iload (pc' := 42)  hc rfl rfl rfl ?_
      refine z_virt (as := [.ref 19, .ref 31, .int x1]) (a := 51) (r := []) hc rfl rfl rfl rfl sh_51 rfl zco_16 rfl rfl rfl ?_
      refine ok_X2_wantsToGo_51_19_31 (zdp hd rfl) (zwp_mono (zwp_bind h) ?_)
      rintro ⟨r19, o17, o18⟩ h
      refine z_po (pc' := 45) (st' := [.int r19]) (v := (some (.int r19))) (L' := [(26, none, o17), (29, none, x3), (31, some 0, fun _ => (I 31 0)), (32, none, x4), (33, none, x5), (34, none, (I 34)), (52, none, o18)]) (K' := []) zco_16 rfl rfl rfl rfl rfl rfl rfl rfl ?_
      refine g_if_eq (pc' := 48) hc rfl rfl (fun hx => ?_) (fun hx => ?_)
      · replace h := zwp_t h hx
        refine g_iinc (pc' := 59) (ls1 := [some (.ref 51), some (.ref 19), some (.ref 31), some (.int a3), some (.int (x1 + (1 : Int32)))]) hc rfl rfl zki_1 (zlt rfl) rfl rfl ?_
        refine g_goto hc rfl ?_
        replace h := zwp_l h
        exact h
      · replace h := zwp_f h hx
        refine g_aload_n (pc' := 49)  hc rfl rfl rfl rfl ?_
        refine g_aload_n (pc' := 50)  hc rfl rfl rfl rfl ?_
        refine g_aload_n (pc' := 51)  hc rfl rfl rfl rfl ?_
        refine g_iload (pc' := 53)  hc rfl rfl rfl ?_
        refine z_virt (as := [.ref 19, .ref 31, .int x1]) (a := 51) (r := []) hc rfl rfl rfl rfl sh_51 rfl zco_17 rfl rfl rfl ?_
        refine ok_X2_go_51_19_31 (zdp hd rfl) (zwp_mono (zwp_bind h) ?_)
        rintro o20 h
        refine z_po (pc' := 56) (st' := []) (v := none) (L' := [(26, none, o17), (29, none, x3), (31, some 0, fun _ => (I 31 0)), (32, none, o20), (33, none, x5), (34, none, (I 34)), (52, none, o18)]) (K' := []) zco_17 rfl rfl rfl rfl rfl rfl rfl rfl ?_
        refine g_iinc (pc' := 59) (ls1 := [some (.ref 51), some (.ref 19), some (.ref 31), some (.int a3), some (.int (x1 + (1 : Int32)))]) hc rfl rfl zki_1 (zlt rfl) rfl rfl ?_
        refine g_goto hc rfl ?_
        replace h := zwp_l h
        exact h
    · replace h := zwp_f h hx
      refine g_iload_n (pc' := 23)  hc rfl rfl rfl ?_
      refine g_if_ne (pc' := 26) hc rfl rfl (fun hx => ?_) (fun hx => ?_)
      · replace h := zwp_f h hx
        refine g_aload_n (pc' := 38)  hc rfl rfl rfl rfl ?_
        refine g_aload_n (pc' := 39)  hc rfl rfl rfl rfl ?_
        refine g_aload_n (pc' := 40)  hc rfl rfl rfl rfl ?_
        refine g_iload (pc' := 42)  hc rfl rfl rfl ?_
        refine z_virt (as := [.ref 19, .ref 31, .int x1]) (a := 51) (r := []) hc rfl rfl rfl rfl sh_51 rfl zco_16 rfl rfl rfl ?_
        refine ok_X2_wantsToGo_51_19_31 (zdp hd rfl) (zwp_mono (zwp_bind h) ?_)
        rintro ⟨r23, o21, o22⟩ h
        refine z_po (pc' := 45) (st' := [.int r23]) (v := (some (.int r23))) (L' := [(26, none, o21), (29, none, x3), (31, some 0, fun _ => (I 31 0)), (32, none, x4), (33, none, x5), (34, none, (I 34)), (52, none, o22)]) (K' := []) zco_16 rfl rfl rfl rfl rfl rfl rfl rfl ?_
        refine g_if_eq (pc' := 48) hc rfl rfl (fun hx => ?_) (fun hx => ?_)
        · replace h := zwp_t h hx
          refine g_iinc (pc' := 59) (ls1 := [some (.ref 51), some (.ref 19), some (.ref 31), some (.int a3), some (.int (x1 + (1 : Int32)))]) hc rfl rfl zki_1 (zlt rfl) rfl rfl ?_
          refine g_goto hc rfl ?_
          replace h := zwp_l h
          exact h
        · replace h := zwp_f h hx
          refine g_aload_n (pc' := 49)  hc rfl rfl rfl rfl ?_
          refine g_aload_n (pc' := 50)  hc rfl rfl rfl rfl ?_
          refine g_aload_n (pc' := 51)  hc rfl rfl rfl rfl ?_
          refine g_iload (pc' := 53)  hc rfl rfl rfl ?_
          refine z_virt (as := [.ref 19, .ref 31, .int x1]) (a := 51) (r := []) hc rfl rfl rfl rfl sh_51 rfl zco_17 rfl rfl rfl ?_
          refine ok_X2_go_51_19_31 (zdp hd rfl) (zwp_mono (zwp_bind h) ?_)
          rintro o24 h
          refine z_po (pc' := 56) (st' := []) (v := none) (L' := [(26, none, o21), (29, none, x3), (31, some 0, fun _ => (I 31 0)), (32, none, o24), (33, none, x5), (34, none, (I 34)), (52, none, o22)]) (K' := []) zco_17 rfl rfl rfl rfl rfl rfl rfl rfl ?_
          refine g_iinc (pc' := 59) (ls1 := [some (.ref 51), some (.ref 19), some (.ref 31), some (.int a3), some (.int (x1 + (1 : Int32)))]) hc rfl rfl zki_1 (zlt rfl) rfl rfl ?_
          refine g_goto hc rfl ?_
          replace h := zwp_l h
          exact h
      · replace h := zwp_t h hx
        refine g_aload_n (pc' := 27)  hc rfl rfl rfl rfl ?_
        refine g_aload_n (pc' := 28)  hc rfl rfl rfl rfl ?_
        refine g_aload_n (pc' := 29)  hc rfl rfl rfl rfl ?_
        refine g_iload (pc' := 31)  hc rfl rfl rfl ?_
        refine z_virt (as := [.ref 19, .ref 31, .int x1]) (a := 51) (r := []) hc rfl rfl rfl rfl sh_51 rfl zco_15 rfl rfl rfl ?_
        refine ok_X2_hurt_51_19_31 (zdp hd rfl) (zwp_mono (zwp_bind h) ?_)
        rintro ⟨o25, o26, o27⟩ h
        refine z_po (pc' := 34) (st' := []) (v := none) (L' := [(26, none, x2), (29, none, o25), (31, some 0, fun _ => (I 31 0)), (32, none, x4), (33, none, o26), (34, none, (I 34)), (52, none, o27)]) (K' := []) zco_15 rfl rfl rfl rfl rfl rfl rfl rfl ?_
        refine g_goto hc rfl ?_
        refine g_iinc (pc' := 59) (ls1 := [some (.ref 51), some (.ref 19), some (.ref 31), some (.int a3), some (.int (x1 + (1 : Int32)))]) hc rfl rfl zki_1 (zlt rfl) rfl rfl ?_
        refine g_goto hc rfl ?_
        replace h := zwp_l h
        exact h
set_option maxRecDepth 4000 in
theorem ok_X2_passHours_51_19_31 {p q : Nat} {I : pI} {J : pJ} {a3 : Int32} {Q : pQ} {d : Nat} (hd : 5 ≤ d) (h : zwp (f_X2_passHours a3 (I 19 12) (I 19 3) (I 27) (I 25 2) (I 26) (I 19 1) (I 30) (I 28 2) (I 29) (I 24) (I 19 9) (I 21) (I 22) (I 19 0) (I 32) (I 31 3) (I 34) (I 31 0) (I 35) (I 33) (J 31 2) (I 52)) (fun w => match w with | (o0, o1, o2, o3, o4, o5, o6) => Q (.inl none) (zS p q I [(26, none, o0), (29, none, o1), (31, some 0, fun _ => o4), (32, none, o2), (33, none, o5), (34, none, o3), (52, none, o6)] J []))) : pm_call M cost zext d 13 [.ref 51, .ref 19, .ref 31, .int a3] (pm_st 108 (shp p q) I J) Q := by
  obtain ⟨d, rfl⟩ := zd1 hd rfl
  have hc := pm_call_m (M := M) (cost := cost) zext_m d
  refine z_in (L := [(26, none, (I 26)), (29, none, (I 29)), (31, some 0, fun _ => (I 31 0)), (32, none, (I 32)), (33, none, (I 33)), (34, none, (I 34)), (52, none, (I 52))]) (K := []) (ls := [some (.ref 51), some (.ref 19), some (.ref 31), some (.int a3), none]) zmt_13 zco_13 rfl rfl (zid_a (zid_a (zid_s (zid_a (zid_a (zid_a (zid_a zid_n))))))) zid_n ?_
  delta f_X2_passHours at h
  refine g_iconst (pc' := 1) (v := (0 : Int32)) hc rfl zki_0 rfl ?_
  refine g_istore (pc' := 3) (ls1 := [some (.ref 51), some (.ref 19), some (.ref 31), some (.int a3), some (.int (0 : Int32))]) hc rfl (zlt rfl) rfl rfl ?_
  refine zjn (G := (fun (g : (Nat → Int32) × (Nat → Int32) × (Nat → Int32) × (Nat → Int32) × Int32 × (Nat → Int32) × (Nat → Int32)) => match g with | (y10, y11, y12, y13, y14, y15, y16) => ∀ z9 : Option Value, znl z9 = true → pm_ev C_X2_passHours (d + 1) (pm_call M cost zext d) cost (false, false) 108 0 0 Q 29 [some (.ref 51), some (.ref 19), some (.ref 31), some (.int a3), z9] [] 0 0 (zS p q I [(26, none, y10), (29, none, y11), (31, some 0, fun _ => y14), (32, none, y12), (33, none, y15), (34, none, y13), (52, none, y16)] J []))) (zwp_bind h) ?_ (fun h => ?_)
  · rintro ⟨y10, y11, y12, y13, y14, y15, y16⟩ h z9 hz9
    replace h := zws h
    exact g_return hc rfl rfl (fun _ => ⟨rfl, rfl⟩) h
  refine zitr_ev (G := (fun (g : Int32 × (Nat → Int32) × (Nat → Int32) × (Nat → Int32) × (Nat → Int32) × Int32 × (Nat → Int32) × (Nat → Int32)) => match g with | (x1, x2, x3, x4, x5, x6, x7, x8) => pm_ev C_X2_passHours (d + 1) (pm_call M cost zext d) cost (false, false) 108 0 0 Q 3 [some (.ref 51), some (.ref 19), some (.ref 31), some (.int a3), some (.int x1)] [] 0 0 (zS p q I [(26, none, x2), (29, none, x3), (31, some 0, fun _ => x6), (32, none, x4), (33, none, x7), (34, none, x5), (52, none, x8)] J []))) ?_ zFU ((0 : Int32), (I 26), (I 29), (I 32), (I 34), (I 31 0), (I 33), (I 52)) h
  rintro ⟨x1, x2, x3, x4, x5, x6, x7, x8⟩ h
  refine g_iload (pc' := 5)  hc rfl rfl rfl ?_
  refine g_iload_n (pc' := 6)  hc rfl rfl rfl ?_
  refine g_icmp_ge (pc' := 9) hc rfl rfl (fun hx => ?_) (fun hx => ?_)
  · replace h := zwp_t h hx
    replace h := zwp_r h
    exact h (some (.int x1)) rfl
  · replace h := zwp_f h hx
    refine g_aload_n (pc' := 10)  hc rfl rfl rfl rfl ?_
    refine g_aload_n (pc' := 11)  hc rfl rfl rfl rfl ?_
    refine g_aload_n (pc' := 12)  hc rfl rfl rfl rfl ?_
    refine g_aload_n (pc' := 13)  hc rfl rfl rfl rfl ?_
    refine g_aload_n (pc' := 14)  hc rfl rfl rfl rfl ?_
    refine z_getI (pc' := 17) (v := x6) hc rfl rfl rfl sh_31 rfl rfl rfl ?_
    refine z_virt (as := [.int x6]) (a := 19) (r := [.ref 31, .ref 19, .ref 51]) hc rfl rfl rfl rfl sh_19 rfl zco_23 rfl rfl rfl ?_
    refine ok_X3_isDull_19 (zdp hd rfl) (zwp_mono (zwp_bind h) ?_)
    rintro r17 h
    refine z_po (pc' := 20) (st' := [.int r17, .ref 31, .ref 19, .ref 51]) (v := (some (.int r17))) (L' := [(26, none, x2), (29, none, x3), (31, some 0, fun _ => x6), (32, none, x4), (33, none, x7), (34, none, x5), (52, none, x8)]) (K' := []) zco_23 rfl rfl rfl rfl rfl rfl rfl rfl ?_
    refine z_virt (as := [.ref 19, .ref 31, .int r17]) (a := 51) (r := []) hc rfl rfl rfl rfl sh_51 rfl zco_14 rfl rfl rfl ?_
    refine ok_X2_passHour_51_19_31 (zdp hd rfl) (zwp_mono (zwp_bind h) ?_)
    rintro ⟨o18, o19, o20, o21, o22, o23, o24⟩ h
    refine z_po (pc' := 23) (st' := []) (v := none) (L' := [(26, none, o18), (29, none, o19), (31, some 0, fun _ => o22), (32, none, o20), (33, none, o23), (34, none, o21), (52, none, o24)]) (K' := []) zco_14 rfl rfl rfl rfl rfl rfl rfl rfl ?_
    refine g_iinc (pc' := 26) (ls1 := [some (.ref 51), some (.ref 19), some (.ref 31), some (.int a3), some (.int (x1 + (1 : Int32)))]) hc rfl rfl zki_1 (zlt rfl) rfl rfl ?_
    refine g_goto hc rfl ?_
    replace h := zwp_l h
    exact h
set_option maxRecDepth 4000 in
theorem ok_X11_hours_0_q {I : pI} {J : pJ} {a1 : Int32} {Q : pQ} {d : Nat} (hd : 6 ≤ d) (h : zwp (f_X11_hours a1 (I 36 2) (I 36 1) (I 37) (I 52) (I 32) (I 31 3) (I 34) (I 31 0) (I 35) (I 31 1) (I 33) (J 31 2) (I 19 12) (I 19 3) (I 27) (I 25 2) (I 26) (I 19 1) (I 30) (I 28 2) (I 29) (I 24) (I 19 9) (I 21) (I 22) (I 19 0) (I 6)) (fun w => match w with | (r, o0, o1, o2, o3, o4, o5, o6, o7, o8, o9, o10) => Q (.inl (some (.int r))) (zS 19 7 I [(6, none, o10), (26, none, o8), (29, none, o9), (31, some 0, fun _ => o6), (32, none, o4), (33, none, o7), (34, none, o5), (36, some 1, fun _ => o1), (36, some 2, fun _ => o0), (37, none, o2), (52, none, o3)] J []))) : pm_call M cost zext d 103 [.ref 0, .int a1] (pm_st 108 (shp 19 7) I J) Q := by
  obtain ⟨d, rfl⟩ := zd1 hd rfl
  have hc := pm_call_m (M := M) (cost := cost) zext_m d
  refine z_in (L := [(6, none, (I 6)), (26, none, (I 26)), (29, none, (I 29)), (31, some 0, fun _ => (I 31 0)), (32, none, (I 32)), (33, none, (I 33)), (34, none, (I 34)), (36, some 1, fun _ => (I 36 1)), (36, some 2, fun _ => (I 36 2)), (37, none, (I 37)), (52, none, (I 52))]) (K := []) (ls := [some (.ref 0), some (.int a1)]) zmt_103 zco_103 rfl rfl (zid_a (zid_a (zid_a (zid_s (zid_a (zid_a (zid_a (zid_s (zid_s (zid_a (zid_a zid_n))))))))))) zid_n ?_
  delta f_X11_hours at h
  refine g_iload_n (pc' := 1)  hc rfl rfl rfl ?_
  refine g_iconst (pc' := 2) (v := (1 : Int32)) hc rfl zki_1 rfl ?_
  refine g_icmp_lt (pc' := 5) hc rfl rfl (fun hx => ?_) (fun hx => ?_)
  · replace h := zwp_t h hx
    refine g_aload_n (pc' := 27)  hc rfl rfl rfl rfl ?_
    refine z_virt (as := []) (a := 0) (r := []) hc rfl rfl rfl rfl sh_0 rfl zco_137 rfl rfl rfl ?_
    refine ok_X11_refuseAct_0 (zdp hd rfl) (zwp_mono (zwp_bind h) ?_)
    rintro ⟨r2, o1⟩ h
    refine z_po (pc' := 30) (st' := [.int r2]) (v := (some (.int r2))) (L' := [(6, none, o1), (26, none, (I 26)), (29, none, (I 29)), (31, some 0, fun _ => (I 31 0)), (32, none, (I 32)), (33, none, (I 33)), (34, none, (I 34)), (36, some 1, fun _ => (I 36 1)), (36, some 2, fun _ => (I 36 2)), (37, none, (I 37)), (52, none, (I 52))]) (K' := []) zco_137 rfl rfl rfl rfl rfl rfl rfl rfl ?_
    replace h := zws h
    exact g_ireturn hc rfl rfl rfl (fun _ => ⟨rfl, rfl⟩) h
  · replace h := zwp_f h hx
    refine g_iload_n (pc' := 6)  hc rfl rfl rfl ?_
    refine g_bipush (pc' := 8) (v := (20 : Int32)) hc rfl zkb_20 rfl ?_
    refine g_icmp_gt (pc' := 11) hc rfl rfl (fun hx => ?_) (fun hx => ?_)
    · replace h := zwp_t h hx
      refine g_aload_n (pc' := 27)  hc rfl rfl rfl rfl ?_
      refine z_virt (as := []) (a := 0) (r := []) hc rfl rfl rfl rfl sh_0 rfl zco_137 rfl rfl rfl ?_
      refine ok_X11_refuseAct_0 (zdp hd rfl) (zwp_mono (zwp_bind h) ?_)
      rintro ⟨r4, o3⟩ h
      refine z_po (pc' := 30) (st' := [.int r4]) (v := (some (.int r4))) (L' := [(6, none, o3), (26, none, (I 26)), (29, none, (I 29)), (31, some 0, fun _ => (I 31 0)), (32, none, (I 32)), (33, none, (I 33)), (34, none, (I 34)), (36, some 1, fun _ => (I 36 1)), (36, some 2, fun _ => (I 36 2)), (37, none, (I 37)), (52, none, (I 52))]) (K' := []) zco_137 rfl rfl rfl rfl rfl rfl rfl rfl ?_
      replace h := zws h
      exact g_ireturn hc rfl rfl rfl (fun _ => ⟨rfl, rfl⟩) h
    · replace h := zwp_f h hx
      refine g_aload_n (pc' := 12)  hc rfl rfl rfl rfl ?_
      refine z_getR (pc' := 15)  hc rfl rfl rfl sh_0 rfl rfl ?_
      refine z_getI (pc' := 18) (v := (I 31 0)) hc rfl rfl rfl sh_31 rfl rfl rfl ?_
      refine g_iload_n (pc' := 19)  hc rfl rfl rfl ?_
      refine g_iadd (pc' := 20)  hc rfl rfl ?_
      refine g_sipush (pc' := 23) (v := (9999 : Int32)) hc rfl zks_9999 rfl ?_
      refine g_icmp_le (pc' := 26) hc rfl rfl (fun hx => ?_) (fun hx => ?_)
      · replace h := zwp_t h hx
        refine g_aload_n (pc' := 32)  hc rfl rfl rfl rfl ?_
        refine z_getR (pc' := 35)  hc rfl rfl rfl sh_0 rfl rfl ?_
        refine g_aload_n (pc' := 36)  hc rfl rfl rfl rfl ?_
        refine z_getR (pc' := 39)  hc rfl rfl rfl sh_0 rfl rfl ?_
        refine z_virt (as := [.ref 31]) (a := 36) (r := []) hc rfl rfl rfl rfl sh_36 rfl zco_3 rfl rfl rfl ?_
        refine ok_X0_keep_36_31 (zdp hd rfl) (zwp_mono (zwp_bind h) ?_)
        rintro ⟨o5, o6, o7⟩ h
        refine z_po (pc' := 42) (st' := []) (v := none) (L' := [(6, none, (I 6)), (26, none, (I 26)), (29, none, (I 29)), (31, some 0, fun _ => (I 31 0)), (32, none, (I 32)), (33, none, (I 33)), (34, none, (I 34)), (36, some 1, fun _ => o6), (36, some 2, fun _ => o5), (37, none, o7), (52, none, (I 52))]) (K' := []) zco_3 rfl rfl rfl rfl rfl rfl rfl rfl ?_
        refine g_aload_n (pc' := 43)  hc rfl rfl rfl rfl ?_
        refine z_getR (pc' := 46)  hc rfl rfl rfl sh_0 rfl rfl ?_
        refine g_aload_n (pc' := 47)  hc rfl rfl rfl rfl ?_
        refine z_getR (pc' := 50)  hc rfl rfl rfl sh_0 rfl rfl ?_
        refine g_aload_n (pc' := 51)  hc rfl rfl rfl rfl ?_
        refine z_getR (pc' := 54)  hc rfl rfl rfl sh_0 rfl rfl ?_
        refine g_iload_n (pc' := 55)  hc rfl rfl rfl ?_
        refine z_virt (as := [.ref 19, .ref 31, .int a1]) (a := 51) (r := []) hc rfl rfl rfl rfl sh_51 rfl zco_13 rfl rfl rfl ?_
        refine ok_X2_passHours_51_19_31 (zdp hd rfl) (zwp_mono (zwp_bind h) ?_)
        rintro ⟨o8, o9, o10, o11, o12, o13, o14⟩ h
        refine z_po (pc' := 58) (st' := []) (v := none) (L' := [(6, none, (I 6)), (26, none, o8), (29, none, o9), (31, some 0, fun _ => o12), (32, none, o10), (33, none, o13), (34, none, o11), (36, some 1, fun _ => o6), (36, some 2, fun _ => o5), (37, none, o7), (52, none, o14)]) (K' := []) zco_13 rfl rfl rfl rfl rfl rfl rfl rfl ?_
        refine g_aload_n (pc' := 59)  hc rfl rfl rfl rfl ?_
        refine z_getR (pc' := 62)  hc rfl rfl rfl sh_0 rfl rfl ?_
        refine z_getI (pc' := 65) (v := o12) hc rfl rfl rfl sh_31 rfl rfl rfl ?_
        replace h := zws h
        exact g_ireturn hc rfl rfl rfl (fun _ => ⟨rfl, rfl⟩) h
      · replace h := zwp_f h hx
        refine g_aload_n (pc' := 27)  hc rfl rfl rfl rfl ?_
        refine z_virt (as := []) (a := 0) (r := []) hc rfl rfl rfl rfl sh_0 rfl zco_137 rfl rfl rfl ?_
        refine ok_X11_refuseAct_0 (zdp hd rfl) (zwp_mono (zwp_bind h) ?_)
        rintro ⟨r16, o15⟩ h
        refine z_po (pc' := 30) (st' := [.int r16]) (v := (some (.int r16))) (L' := [(6, none, o15), (26, none, (I 26)), (29, none, (I 29)), (31, some 0, fun _ => (I 31 0)), (32, none, (I 32)), (33, none, (I 33)), (34, none, (I 34)), (36, some 1, fun _ => (I 36 1)), (36, some 2, fun _ => (I 36 2)), (37, none, (I 37)), (52, none, (I 52))]) (K' := []) zco_137 rfl rfl rfl rfl rfl rfl rfl rfl ?_
        replace h := zws h
        exact g_ireturn hc rfl rfl rfl (fun _ => ⟨rfl, rfl⟩) h
set_option maxRecDepth 4000 in
theorem ok_X2_setValues_51_19_53 {p q : Nat} {I : pI} {J : pJ} {a3 : Int32} {Q : pQ} {d : Nat} (hd : 2 ≤ d) (h : zwp (f_X2_setValues a3 (I 24) (I 19 9) (I 21) (I 22) (I 54) (I 53 3) (I 56) (I 53 0) (I 57) (I 55) (I 52)) (fun o0 => Q (.inl none) (zS p q I [(52, none, o0)] J []))) : pm_call M cost zext d 18 [.ref 51, .ref 19, .ref 53, .int a3] (pm_st 108 (shp p q) I J) Q := by
  obtain ⟨d, rfl⟩ := zd1 hd rfl
  have hc := pm_call_m (M := M) (cost := cost) zext_m d
  refine z_in (L := [(52, none, (I 52))]) (K := []) (ls := [some (.ref 51), some (.ref 19), some (.ref 53), some (.int a3)]) zmt_18 zco_18 rfl rfl (zid_a zid_n) zid_n ?_
  delta f_X2_setValues at h
  refine g_aload_n (pc' := 1)  hc rfl rfl rfl rfl ?_
  refine z_getR (pc' := 4)  hc rfl rfl rfl sh_51 rfl rfl ?_
  refine g_iconst (pc' := 5) (v := (0 : Int32)) hc rfl zki_0 rfl ?_
  refine g_aload_n (pc' := 6)  hc rfl rfl rfl rfl ?_
  refine z_getR (pc' := 9)  hc rfl rfl rfl sh_53 rfl rfl ?_
  refine g_iload_n (pc' := 10)  hc rfl rfl rfl ?_
  have hb := (zwp_bnd h).1
  replace h := (zwp_bnd h).2
  refine z_iaload (pc' := 11) (v := (((I 55)) a3.toNatClampNeg)) hc rfl rfl sh_55 hb rfl rfl ?_
  refine z_iastore (pc' := 12) (g := (I 52)) (L' := [(52, none, (upd ((I 52)) 0 (((I 55)) a3.toNatClampNeg)))]) hc rfl rfl sh_52 (by decide) rfl rfl rfl rfl ?_
  refine g_aload_n (pc' := 13)  hc rfl rfl rfl rfl ?_
  refine z_getR (pc' := 16)  hc rfl rfl rfl sh_51 rfl rfl ?_
  refine g_iconst (pc' := 17) (v := (1 : Int32)) hc rfl zki_1 rfl ?_
  refine g_aload_n (pc' := 18)  hc rfl rfl rfl rfl ?_
  refine g_aload_n (pc' := 19)  hc rfl rfl rfl rfl ?_
  refine z_getI (pc' := 22) (v := (I 53 0)) hc rfl rfl rfl sh_53 rfl rfl rfl ?_
  refine z_virt (as := [.int (I 53 0)]) (a := 19) (r := [.int (1 : Int32), .ref 52]) hc rfl rfl rfl rfl sh_19 rfl zco_22 rfl rfl rfl ?_
  refine ok_X3_lightOf_19 (zdp hd rfl) (zwp_mono (zwp_bind h) ?_)
  rintro r1 h
  refine z_po (pc' := 25) (st' := [.int r1, .int (1 : Int32), .ref 52]) (v := (some (.int r1))) (L' := [(52, none, (upd ((I 52)) 0 (((I 55)) a3.toNatClampNeg)))]) (K' := []) zco_22 rfl rfl rfl rfl rfl rfl rfl rfl ?_
  refine z_iastore (pc' := 26) (g := (upd ((I 52)) 0 (((I 55)) a3.toNatClampNeg))) (L' := [(52, none, (upd (upd ((I 52)) 0 (((I 55)) a3.toNatClampNeg)) 1 r1))]) hc rfl rfl sh_52 (by decide) rfl rfl rfl rfl ?_
  refine g_aload_n (pc' := 27)  hc rfl rfl rfl rfl ?_
  refine z_getR (pc' := 30)  hc rfl rfl rfl sh_51 rfl rfl ?_
  refine g_iconst (pc' := 31) (v := (2 : Int32)) hc rfl zki_2 rfl ?_
  refine g_aload_n (pc' := 32)  hc rfl rfl rfl rfl ?_
  refine g_iload_n (pc' := 33)  hc rfl rfl rfl ?_
  refine z_virt (as := [.int a3]) (a := 53) (r := [.int (2 : Int32), .ref 52]) hc rfl rfl rfl rfl sh_53 rfl zco_73 rfl rfl rfl ?_
  refine ok_X8_othersWith_53 (zdp hd rfl) (zwp_mono (zwp_bind h) ?_)
  rintro r2 h
  refine z_po (pc' := 36) (st' := [.int r2, .int (2 : Int32), .ref 52]) (v := (some (.int r2))) (L' := [(52, none, (upd (upd ((I 52)) 0 (((I 55)) a3.toNatClampNeg)) 1 r1))]) (K' := []) zco_73 rfl rfl rfl rfl rfl rfl rfl rfl ?_
  refine z_iastore (pc' := 37) (g := (upd (upd ((I 52)) 0 (((I 55)) a3.toNatClampNeg)) 1 r1)) (L' := [(52, none, (upd (upd (upd ((I 52)) 0 (((I 55)) a3.toNatClampNeg)) 1 r1) 2 r2))]) hc rfl rfl sh_52 (by decide) rfl rfl rfl rfl ?_
  refine g_aload_n (pc' := 38)  hc rfl rfl rfl rfl ?_
  refine z_getR (pc' := 41)  hc rfl rfl rfl sh_51 rfl rfl ?_
  refine g_iconst (pc' := 42) (v := (3 : Int32)) hc rfl zki_3 rfl ?_
  refine g_aload_n (pc' := 43)  hc rfl rfl rfl rfl ?_
  refine z_getI (pc' := 46) (v := (I 53 0)) hc rfl rfl rfl sh_53 rfl rfl rfl ?_
  refine z_iastore (pc' := 47) (g := (upd (upd (upd ((I 52)) 0 (((I 55)) a3.toNatClampNeg)) 1 r1) 2 r2)) (L' := [(52, none, (upd (upd (upd (upd ((I 52)) 0 (((I 55)) a3.toNatClampNeg)) 1 r1) 2 r2) 3 ((I 53 0))))]) hc rfl rfl sh_52 (by decide) rfl rfl rfl rfl ?_
  refine g_aload_n (pc' := 48)  hc rfl rfl rfl rfl ?_
  refine z_getR (pc' := 51)  hc rfl rfl rfl sh_51 rfl rfl ?_
  refine g_iconst (pc' := 52) (v := (4 : Int32)) hc rfl zki_4 rfl ?_
  refine g_aload_n (pc' := 53)  hc rfl rfl rfl rfl ?_
  refine g_iload_n (pc' := 54)  hc rfl rfl rfl ?_
  refine g_aload_n (pc' := 55)  hc rfl rfl rfl rfl ?_
  refine z_getI (pc' := 58) (v := (I 53 0)) hc rfl rfl rfl sh_53 rfl rfl rfl ?_
  refine g_aload_n (pc' := 59)  hc rfl rfl rfl rfl ?_
  refine z_getR (pc' := 62)  hc rfl rfl rfl sh_53 rfl rfl ?_
  refine g_iload_n (pc' := 63)  hc rfl rfl rfl ?_
  have hb := (zwp_bnd h).1
  replace h := (zwp_bnd h).2
  refine z_iaload (pc' := 64) (v := (((I 57)) a3.toNatClampNeg)) hc rfl rfl sh_57 hb rfl rfl ?_
  refine g_iadd (pc' := 65)  hc rfl rfl ?_
  refine z_virt (as := [.int a3, .int (((I 53 0)) + (((I 57)) a3.toNatClampNeg))]) (a := 19) (r := [.int (4 : Int32), .ref 52]) hc rfl rfl rfl rfl sh_19 rfl zco_24 rfl rfl rfl ?_
  refine ok_X3_stepOf_19 (zdp hd rfl) (zwp_mono (zwp_bind h) ?_)
  rintro r3 h
  refine z_po (pc' := 68) (st' := [.int r3, .int (4 : Int32), .ref 52]) (v := (some (.int r3))) (L' := [(52, none, (upd (upd (upd (upd ((I 52)) 0 (((I 55)) a3.toNatClampNeg)) 1 r1) 2 r2) 3 ((I 53 0))))]) (K' := []) zco_24 rfl rfl rfl rfl rfl rfl rfl rfl ?_
  refine z_iastore (pc' := 69) (g := (upd (upd (upd (upd ((I 52)) 0 (((I 55)) a3.toNatClampNeg)) 1 r1) 2 r2) 3 ((I 53 0)))) (L' := [(52, none, (upd (upd (upd (upd (upd ((I 52)) 0 (((I 55)) a3.toNatClampNeg)) 1 r1) 2 r2) 3 ((I 53 0))) 4 r3))]) hc rfl rfl sh_52 (by decide) rfl rfl rfl rfl ?_
  refine g_aload_n (pc' := 70)  hc rfl rfl rfl rfl ?_
  refine z_getR (pc' := 73)  hc rfl rfl rfl sh_51 rfl rfl ?_
  refine g_iconst (pc' := 74) (v := (5 : Int32)) hc rfl zki_5 rfl ?_
  refine g_aload_n (pc' := 75)  hc rfl rfl rfl rfl ?_
  refine z_getR (pc' := 78)  hc rfl rfl rfl sh_53 rfl rfl ?_
  refine g_iload_n (pc' := 79)  hc rfl rfl rfl ?_
  have hb := (zwp_bnd h).1
  replace h := (zwp_bnd h).2
  refine z_iaload (pc' := 80) (v := (((I 56)) a3.toNatClampNeg)) hc rfl rfl sh_56 hb rfl rfl ?_
  refine z_iastore (pc' := 81) (g := (upd (upd (upd (upd (upd ((I 52)) 0 (((I 55)) a3.toNatClampNeg)) 1 r1) 2 r2) 3 ((I 53 0))) 4 r3)) (L' := [(52, none, (upd (upd (upd (upd (upd (upd ((I 52)) 0 (((I 55)) a3.toNatClampNeg)) 1 r1) 2 r2) 3 ((I 53 0))) 4 r3) 5 (((I 56)) a3.toNatClampNeg)))]) hc rfl rfl sh_52 (by decide) rfl rfl rfl rfl ?_
  replace h := zws h
  exact g_return hc rfl rfl (fun _ => ⟨rfl, rfl⟩) h
set_option maxRecDepth 4000 in
theorem ok_X2_hurt_51_19_53 {p q : Nat} {I : pI} {J : pJ} {a3 : Int32} {Q : pQ} {d : Nat} (hd : 3 ≤ d) (h : zwp (f_X2_hurt a3 (I 30) (I 28 2) (I 29) (I 24) (I 19 9) (I 21) (I 22) (I 54) (I 53 3) (I 56) (I 53 0) (I 57) (I 55) (I 52)) (fun w => match w with | (o0, o1, o2) => Q (.inl none) (zS p q I [(29, none, o0), (52, none, o2), (55, none, o1)] J []))) : pm_call M cost zext d 15 [.ref 51, .ref 19, .ref 53, .int a3] (pm_st 108 (shp p q) I J) Q := by
  obtain ⟨d, rfl⟩ := zd1 hd rfl
  have hc := pm_call_m (M := M) (cost := cost) zext_m d
  refine z_in (L := [(29, none, (I 29)), (52, none, (I 52)), (55, none, (I 55))]) (K := []) (ls := [some (.ref 51), some (.ref 19), some (.ref 53), some (.int a3), none]) zmt_15 zco_15 rfl rfl (zid_a (zid_a (zid_a zid_n))) zid_n ?_
  delta f_X2_hurt at h
  refine g_iconst (pc' := 1) (v := (1 : Int32)) hc rfl zki_1 rfl ?_
  refine g_istore (pc' := 3) (ls1 := [some (.ref 51), some (.ref 19), some (.ref 53), some (.int a3), some (.int (1 : Int32))]) hc rfl (zlt rfl) rfl rfl ?_
  refine g_aload_n (pc' := 4)  hc rfl rfl rfl rfl ?_
  refine z_getR (pc' := 7)  hc rfl rfl rfl sh_19 rfl rfl ?_
  refine z_virt (as := []) (a := 28) (r := []) hc rfl rfl rfl rfl sh_28 rfl zco_43 rfl rfl rfl ?_
  refine ok_X5_isTold_28 (zdp hd rfl) (zwp_mono (zwp_bind h) ?_)
  rintro r1 h
  refine z_po (pc' := 10) (st' := [.int r1]) (v := (some (.int r1))) (L' := [(29, none, (I 29)), (52, none, (I 52)), (55, none, (I 55))]) (K' := []) zco_43 rfl rfl rfl rfl rfl rfl rfl rfl ?_
  refine zjn (G := (fun (g : Int32 × (Nat → Int32) × (Nat → Int32)) => match g with | (j2, j3, j4) => pm_ev C_X2_hurt (d + 1) (pm_call M cost zext d) cost (false, false) 108 0 0 Q 42 [some (.ref 51), some (.ref 19), some (.ref 53), some (.int a3), some (.int j2)] [] 0 0 (zS p q I [(29, none, j3), (52, none, j4), (55, none, (I 55))] J []))) (zwp_bind h) ?_ (fun h => ?_)
  · rintro ⟨j2, j3, j4⟩ h
    refine g_aload_n (pc' := 43)  hc rfl rfl rfl rfl ?_
    refine z_getR (pc' := 46)  hc rfl rfl rfl sh_53 rfl rfl ?_
    refine g_iload_n (pc' := 47)  hc rfl rfl rfl ?_
    refine g_bipush (pc' := 49) (v := (99 : Int32)) hc rfl zkb_99 rfl ?_
    refine g_aload_n (pc' := 50)  hc rfl rfl rfl rfl ?_
    refine z_getR (pc' := 53)  hc rfl rfl rfl sh_53 rfl rfl ?_
    refine g_iload_n (pc' := 54)  hc rfl rfl rfl ?_
    have hb := (zwp_bnd h).1
    replace h := (zwp_bnd h).2
    refine z_iaload (pc' := 55) (v := (((I 55)) a3.toNatClampNeg)) hc rfl rfl sh_55 hb rfl rfl ?_
    refine g_iload (pc' := 57)  hc rfl rfl rfl ?_
    refine g_iadd (pc' := 58)  hc rfl rfl ?_
    refine z_min (pc' := 61)  hc rfl rfl (zdq hd rfl) rfl rfl ?_
    have hb := (zwp_bnd h).1
    replace h := (zwp_bnd h).2
    refine z_iastore (pc' := 62) (g := (I 55)) (L' := [(29, none, j3), (52, none, j4), (55, none, (upd ((I 55)) a3.toNatClampNeg (if ((((I 55)) a3.toNatClampNeg) + j2) < (99 : Int32) then ((((I 55)) a3.toNatClampNeg) + j2) else (99 : Int32))))]) hc rfl rfl sh_55 hb rfl rfl rfl rfl ?_
    replace h := zws h
    exact g_return hc rfl rfl (fun _ => ⟨rfl, rfl⟩) h
  refine g_if_eq (pc' := 13) hc rfl rfl (fun hx => ?_) (fun hx => ?_)
  · replace h := zwp_t h hx
    replace h := zws h
    exact h
  · replace h := zwp_f h hx
    refine g_aload_n (pc' := 14)  hc rfl rfl rfl rfl ?_
    refine g_aload_n (pc' := 15)  hc rfl rfl rfl rfl ?_
    refine g_aload_n (pc' := 16)  hc rfl rfl rfl rfl ?_
    refine g_iload_n (pc' := 17)  hc rfl rfl rfl ?_
    refine z_virt (as := [.ref 19, .ref 53, .int a3]) (a := 51) (r := []) hc rfl rfl rfl rfl sh_51 rfl zco_18 rfl rfl rfl ?_
    refine ok_X2_setValues_51_19_53 (zdp hd rfl) (zwp_mono (zwp_bind h) ?_)
    rintro o5 h
    refine z_po (pc' := 20) (st' := []) (v := none) (L' := [(29, none, (I 29)), (52, none, o5), (55, none, (I 55))]) (K' := []) zco_18 rfl rfl rfl rfl rfl rfl rfl rfl ?_
    refine g_iconst (pc' := 21) (v := (0 : Int32)) hc rfl zki_0 rfl ?_
    refine g_bipush (pc' := 23) (v := (9 : Int32)) hc rfl zkb_9 rfl ?_
    refine g_aload_n (pc' := 24)  hc rfl rfl rfl rfl ?_
    refine z_getR (pc' := 27)  hc rfl rfl rfl sh_19 rfl rfl ?_
    refine g_aload_n (pc' := 28)  hc rfl rfl rfl rfl ?_
    refine z_getR (pc' := 31)  hc rfl rfl rfl sh_51 rfl rfl ?_
    refine z_virt (as := [.ref 52]) (a := 28) (r := [.int (9 : Int32), .int (0 : Int32)]) hc rfl rfl rfl rfl sh_28 rfl zco_45 rfl rfl rfl ?_
    refine ok_X5_value_28_52 (zdp hd rfl) (zwp_mono (zwp_bind h) ?_)
    rintro ⟨r7, o6⟩ h
    refine z_po (pc' := 34) (st' := [.int r7, .int (9 : Int32), .int (0 : Int32)]) (v := (some (.int r7))) (L' := [(29, none, o6), (52, none, o5), (55, none, (I 55))]) (K' := []) zco_45 rfl rfl rfl rfl rfl rfl rfl rfl ?_
    refine z_min (pc' := 37)  hc rfl rfl (zdq hd rfl) rfl rfl ?_
    refine z_max (pc' := 40)  hc rfl rfl (zdq hd rfl) rfl rfl ?_
    refine g_istore (pc' := 42) (ls1 := [some (.ref 51), some (.ref 19), some (.ref 53), some (.int a3), some (.int (if (0 : Int32) < (if r7 < (9 : Int32) then r7 else (9 : Int32)) then (if r7 < (9 : Int32) then r7 else (9 : Int32)) else (0 : Int32)))]) hc rfl (zlt rfl) rfl rfl ?_
    replace h := zws h
    exact h
set_option maxRecDepth 4000 in
theorem ok_X2_wantsToGo_51_19_53 {p q : Nat} {I : pI} {J : pJ} {a3 : Int32} {Q : pQ} {d : Nat} (hd : 3 ≤ d) (h : zwp (f_X2_wantsToGo a3 (I 27) (I 25 2) (I 26) (I 24) (I 19 9) (I 21) (I 22) (I 54) (I 53 3) (I 56) (I 53 0) (I 57) (I 55) (I 52)) (fun w => match w with | (r, o0, o1) => Q (.inl (some (.int r))) (zS p q I [(26, none, o0), (52, none, o1)] J []))) : pm_call M cost zext d 16 [.ref 51, .ref 19, .ref 53, .int a3] (pm_st 108 (shp p q) I J) Q := by
  obtain ⟨d, rfl⟩ := zd1 hd rfl
  have hc := pm_call_m (M := M) (cost := cost) zext_m d
  refine z_in (L := [(26, none, (I 26)), (52, none, (I 52))]) (K := []) (ls := [some (.ref 51), some (.ref 19), some (.ref 53), some (.int a3)]) zmt_16 zco_16 rfl rfl (zid_a (zid_a zid_n)) zid_n ?_
  delta f_X2_wantsToGo at h
  refine g_aload_n (pc' := 1)  hc rfl rfl rfl rfl ?_
  refine z_getR (pc' := 4)  hc rfl rfl rfl sh_19 rfl rfl ?_
  refine z_virt (as := []) (a := 25) (r := []) hc rfl rfl rfl rfl sh_25 rfl zco_43 rfl rfl rfl ?_
  refine ok_X5_isTold_25 (zdp hd rfl) (zwp_mono (zwp_bind h) ?_)
  rintro r1 h
  refine z_po (pc' := 7) (st' := [.int r1]) (v := (some (.int r1))) (L' := [(26, none, (I 26)), (52, none, (I 52))]) (K' := []) zco_43 rfl rfl rfl rfl rfl rfl rfl rfl ?_
  refine g_if_ne (pc' := 10) hc rfl rfl (fun hx => ?_) (fun hx => ?_)
  · replace h := zwp_f h hx
    refine g_aload_n (pc' := 28)  hc rfl rfl rfl rfl ?_
    refine g_aload_n (pc' := 29)  hc rfl rfl rfl rfl ?_
    refine g_aload_n (pc' := 30)  hc rfl rfl rfl rfl ?_
    refine g_iload_n (pc' := 31)  hc rfl rfl rfl ?_
    refine z_virt (as := [.ref 19, .ref 53, .int a3]) (a := 51) (r := []) hc rfl rfl rfl rfl sh_51 rfl zco_18 rfl rfl rfl ?_
    refine ok_X2_setValues_51_19_53 (zdp hd rfl) (zwp_mono (zwp_bind h) ?_)
    rintro o2 h
    refine z_po (pc' := 34) (st' := []) (v := none) (L' := [(26, none, (I 26)), (52, none, o2)]) (K' := []) zco_18 rfl rfl rfl rfl rfl rfl rfl rfl ?_
    refine g_aload_n (pc' := 35)  hc rfl rfl rfl rfl ?_
    refine z_getR (pc' := 38)  hc rfl rfl rfl sh_19 rfl rfl ?_
    refine g_aload_n (pc' := 39)  hc rfl rfl rfl rfl ?_
    refine z_getR (pc' := 42)  hc rfl rfl rfl sh_51 rfl rfl ?_
    refine z_virt (as := [.ref 52]) (a := 25) (r := []) hc rfl rfl rfl rfl sh_25 rfl zco_45 rfl rfl rfl ?_
    refine ok_X5_value_25_52 (zdp hd rfl) (zwp_mono (zwp_bind h) ?_)
    rintro ⟨r4, o3⟩ h
    refine z_po (pc' := 45) (st' := [.int r4]) (v := (some (.int r4))) (L' := [(26, none, o3), (52, none, o2)]) (K' := []) zco_45 rfl rfl rfl rfl rfl rfl rfl rfl ?_
    refine g_if_le (pc' := 48) hc rfl rfl (fun hx => ?_) (fun hx => ?_)
    · replace h := zwp_t h hx
      refine g_iconst (pc' := 53) (v := (0 : Int32)) hc rfl zki_0 rfl ?_
      replace h := zws h
      exact g_ireturn hc rfl rfl rfl (fun _ => ⟨rfl, rfl⟩) h
    · replace h := zwp_f h hx
      refine g_iconst (pc' := 49) (v := (1 : Int32)) hc rfl zki_1 rfl ?_
      refine g_goto hc rfl ?_
      replace h := zws h
      exact g_ireturn hc rfl rfl rfl (fun _ => ⟨rfl, rfl⟩) h
  · replace h := zwp_t h hx
    refine g_aload_n (pc' := 11)  hc rfl rfl rfl rfl ?_
    refine z_getR (pc' := 14)  hc rfl rfl rfl sh_53 rfl rfl ?_
    refine g_iload_n (pc' := 15)  hc rfl rfl rfl ?_
    have hb := (zwp_bnd h).1
    replace h := (zwp_bnd h).2
    refine z_iaload (pc' := 16) (v := (((I 55)) a3.toNatClampNeg)) hc rfl rfl sh_55 hb rfl rfl ?_
    refine g_bipush (pc' := 18) (v := (10 : Int32)) hc rfl zkb_10 rfl ?_
    refine g_icmp_ge (pc' := 21) hc rfl rfl (fun hx => ?_) (fun hx => ?_)
    · replace h := zwp_t h hx
      refine g_iconst (pc' := 26) (v := (0 : Int32)) hc rfl zki_0 rfl ?_
      replace h := zws h
      exact g_ireturn hc rfl rfl rfl (fun _ => ⟨rfl, rfl⟩) h
    · replace h := zwp_f h hx
      refine g_iconst (pc' := 22) (v := (1 : Int32)) hc rfl zki_1 rfl ?_
      refine g_goto hc rfl ?_
      replace h := zws h
      exact g_ireturn hc rfl rfl rfl (fun _ => ⟨rfl, rfl⟩) h
set_option maxRecDepth 4000 in
theorem ok_X2_go_51_19_53 {p q : Nat} {I : pI} {J : pJ} {a3 : Int32} {Q : pQ} {d : Nat} (hd : 3 ≤ d) (h : zwp (f_X2_go a3 (I 19 1) (I 21) (I 22) (I 19 0) (I 54) (I 53 0) (I 57) (J 53 2)) (fun o0 => Q (.inl none) (zS p q I [(54, none, o0)] J []))) : pm_call M cost zext d 17 [.ref 51, .ref 19, .ref 53, .int a3] (pm_st 108 (shp p q) I J) Q := by
  obtain ⟨d, rfl⟩ := zd1 hd rfl
  have hc := pm_call_m (M := M) (cost := cost) zext_m d
  refine z_in (L := [(54, none, (I 54))]) (K := []) (ls := [some (.ref 51), some (.ref 19), some (.ref 53), some (.int a3), none]) zmt_17 zco_17 rfl rfl (zid_a zid_n) zid_n ?_
  delta f_X2_go at h
  refine g_aload_n (pc' := 1)  hc rfl rfl rfl rfl ?_
  refine g_aload_n (pc' := 2)  hc rfl rfl rfl rfl ?_
  refine z_getR (pc' := 5)  hc rfl rfl rfl sh_53 rfl rfl ?_
  refine g_iload_n (pc' := 6)  hc rfl rfl rfl ?_
  have hb := (zwp_bnd h).1
  replace h := (zwp_bnd h).2
  refine z_iaload (pc' := 7) (v := (((I 54)) a3.toNatClampNeg)) hc rfl rfl sh_54 hb rfl rfl ?_
  refine g_aload_n (pc' := 8)  hc rfl rfl rfl rfl ?_
  refine g_iload_n (pc' := 9)  hc rfl rfl rfl ?_
  refine g_aload_n (pc' := 10)  hc rfl rfl rfl rfl ?_
  refine z_getI (pc' := 13) (v := (I 53 0)) hc rfl rfl rfl sh_53 rfl rfl rfl ?_
  refine g_aload_n (pc' := 14)  hc rfl rfl rfl rfl ?_
  refine z_getR (pc' := 17)  hc rfl rfl rfl sh_53 rfl rfl ?_
  refine g_iload_n (pc' := 18)  hc rfl rfl rfl ?_
  have hb := (zwp_bnd h).1
  replace h := (zwp_bnd h).2
  refine z_iaload (pc' := 19) (v := (((I 57)) a3.toNatClampNeg)) hc rfl rfl sh_57 hb rfl rfl ?_
  refine g_iadd (pc' := 20)  hc rfl rfl ?_
  refine z_virt (as := [.int a3, .int (((I 53 0)) + (((I 57)) a3.toNatClampNeg))]) (a := 19) (r := [.int (((I 54)) a3.toNatClampNeg), .ref 19]) hc rfl rfl rfl rfl sh_19 rfl zco_24 rfl rfl rfl ?_
  refine ok_X3_stepOf_19 (zdp hd rfl) (zwp_mono (zwp_bind h) ?_)
  rintro r1 h
  refine z_po (pc' := 23) (st' := [.int r1, .int (((I 54)) a3.toNatClampNeg), .ref 19]) (v := (some (.int r1))) (L' := [(54, none, (I 54))]) (K' := []) zco_24 rfl rfl rfl rfl rfl rfl rfl rfl ?_
  refine z_virt (as := [.int (((I 54)) a3.toNatClampNeg), .int r1]) (a := 19) (r := []) hc rfl rfl rfl rfl sh_19 rfl zco_28 rfl rfl rfl ?_
  refine ok_X3_beside_19 (zdp hd rfl) (zwp_mono (zwp_bind h) ?_)
  rintro r2 h
  refine z_po (pc' := 26) (st' := [.int r2]) (v := (some (.int r2))) (L' := [(54, none, (I 54))]) (K' := []) zco_28 rfl rfl rfl rfl rfl rfl rfl rfl ?_
  refine g_istore (pc' := 28) (ls1 := [some (.ref 51), some (.ref 19), some (.ref 53), some (.int a3), some (.int r2)]) hc rfl (zlt rfl) rfl rfl ?_
  refine g_iload (pc' := 30)  hc rfl rfl rfl ?_
  refine g_iconst (pc' := 31) (v := (-1 : Int32)) hc rfl zki_m1 rfl ?_
  refine g_icmp_eq (pc' := 34) hc rfl rfl (fun hx => ?_) (fun hx => ?_)
  · replace h := zwp_t h hx
    replace h := zws h
    exact g_return hc rfl rfl (fun _ => ⟨rfl, rfl⟩) h
  · replace h := zwp_f h hx
    refine g_aload_n (pc' := 35)  hc rfl rfl rfl rfl ?_
    refine g_iload (pc' := 37)  hc rfl rfl rfl ?_
    refine z_virt (as := [.int r2]) (a := 53) (r := []) hc rfl rfl rfl rfl sh_53 rfl zco_71 rfl rfl rfl ?_
    refine ok_X8_isWall_53 (zdp hd rfl) (zwp_mono (zwp_bind h) ?_)
    rintro r3 h
    refine z_po (pc' := 40) (st' := [.int r3]) (v := (some (.int r3))) (L' := [(54, none, (I 54))]) (K' := []) zco_71 rfl rfl rfl rfl rfl rfl rfl rfl ?_
    refine g_if_ne (pc' := 43) hc rfl rfl (fun hx => ?_) (fun hx => ?_)
    · replace h := zwp_f h hx
      replace h := zws h
      exact g_return hc rfl rfl (fun _ => ⟨rfl, rfl⟩) h
    · replace h := zwp_t h hx
      refine g_aload_n (pc' := 44)  hc rfl rfl rfl rfl ?_
      refine z_getR (pc' := 47)  hc rfl rfl rfl sh_53 rfl rfl ?_
      refine g_iload_n (pc' := 48)  hc rfl rfl rfl ?_
      refine g_iload (pc' := 50)  hc rfl rfl rfl ?_
      have hb := (zwp_bnd h).1
      replace h := (zwp_bnd h).2
      refine z_iastore (pc' := 51) (g := (I 54)) (L' := [(54, none, (upd ((I 54)) a3.toNatClampNeg r2))]) hc rfl rfl sh_54 hb rfl rfl rfl rfl ?_
      replace h := zws h
      exact g_return hc rfl rfl (fun _ => ⟨rfl, rfl⟩) h
set_option maxRecDepth 4000 in
theorem ok_X2_passHour_51_19_53 {p q : Nat} {I : pI} {J : pJ} {a3 : Int32} {Q : pQ} {d : Nat} (hd : 4 ≤ d) (h : zwp (f_X2_passHour a3 (I 19 3) (I 27) (I 25 2) (I 26) (I 19 1) (I 30) (I 28 2) (I 29) (I 24) (I 19 9) (I 21) (I 22) (I 19 0) (I 54) (I 53 3) (I 56) (I 53 0) (I 57) (I 55) (J 53 2) (I 52)) (fun w => match w with | (o0, o1, o2, o3, o4, o5, o6) => Q (.inl none) (zS p q I [(26, none, o0), (29, none, o1), (52, none, o6), (53, some 0, fun _ => o4), (54, none, o2), (55, none, o5), (56, none, o3)] J []))) : pm_call M cost zext d 14 [.ref 51, .ref 19, .ref 53, .int a3] (pm_st 108 (shp p q) I J) Q := by
  obtain ⟨d, rfl⟩ := zd1 hd rfl
  have hc := pm_call_m (M := M) (cost := cost) zext_m d
  refine z_in (L := [(26, none, (I 26)), (29, none, (I 29)), (52, none, (I 52)), (53, some 0, fun _ => (I 53 0)), (54, none, (I 54)), (55, none, (I 55)), (56, none, (I 56))]) (K := []) (ls := [some (.ref 51), some (.ref 19), some (.ref 53), some (.int a3), none]) zmt_14 zco_14 rfl rfl (zid_a (zid_a (zid_a (zid_s (zid_a (zid_a (zid_a zid_n))))))) zid_n ?_
  delta f_X2_passHour at h
  refine g_iconst (pc' := 1) (v := (0 : Int32)) hc rfl zki_0 rfl ?_
  refine g_istore (pc' := 3) (ls1 := [some (.ref 51), some (.ref 19), some (.ref 53), some (.int a3), some (.int (0 : Int32))]) hc rfl (zlt rfl) rfl rfl ?_
  refine zjn (G := (fun (g : (Nat → Int32) × (Nat → Int32) × (Nat → Int32) × (Nat → Int32) × (Nat → Int32)) => match g with | (y8, y9, y10, y11, y12) => ∀ z7 : Option Value, znl z7 = true → pm_ev C_X2_passHour (d + 1) (pm_call M cost zext d) cost (false, false) 108 0 0 Q 62 [some (.ref 51), some (.ref 19), some (.ref 53), some (.int a3), z7] [] 0 0 (zS p q I [(26, none, y8), (29, none, y9), (52, none, y12), (53, some 0, fun _ => (I 53 0)), (54, none, y10), (55, none, y11), (56, none, (I 56))] J []))) (zwp_bind h) ?_ (fun h => ?_)
  · rintro ⟨y8, y9, y10, y11, y12⟩ h z7 hz7
    refine g_iconst (pc' := 63) (v := (0 : Int32)) hc rfl zki_0 rfl ?_
    refine g_istore (pc' := 65) (ls1 := [some (.ref 51), some (.ref 19), some (.ref 53), some (.int a3), some (.int (0 : Int32))]) hc rfl (zlt rfl) rfl rfl ?_
    refine zjn (G := (fun (y16 : (Nat → Int32)) => ∀ z15 : Option Value, znl z15 = true → pm_ev C_X2_passHour (d + 1) (pm_call M cost zext d) cost (false, false) 108 0 0 Q 100 [some (.ref 51), some (.ref 19), some (.ref 53), some (.int a3), z15] [] 0 0 (zS p q I [(26, none, y8), (29, none, y9), (52, none, y12), (53, some 0, fun _ => (I 53 0)), (54, none, y10), (55, none, y11), (56, none, y16)] J []))) (zwp_bind h) ?_ (fun h => ?_)
    · rintro y16 h z15 hz15
      refine g_aload_n (pc' := 101)  hc rfl rfl rfl rfl ?_
      refine g_dup (pc' := 102)  hc rfl rfl rfl ?_
      refine z_getI (pc' := 105) (v := (I 53 0)) hc rfl rfl rfl sh_53 rfl rfl rfl ?_
      refine g_iconst (pc' := 106) (v := (1 : Int32)) hc rfl zki_1 rfl ?_
      refine g_iadd (pc' := 107)  hc rfl rfl ?_
      refine z_putI (pc' := 110) (L' := [(26, none, y8), (29, none, y9), (52, none, y12), (53, some 0, fun _ => (((I 53 0)) + (1 : Int32))), (54, none, y10), (55, none, y11), (56, none, y16)]) hc rfl rfl rfl sh_53 rfl zft_8_0 rfl (fun h => Bool.noConfusion h) rfl rfl rfl ?_
      replace h := zws h
      exact g_return hc rfl rfl (fun _ => ⟨rfl, rfl⟩) h
    refine zitr_ev (G := (fun (g : Int32 × (Nat → Int32)) => match g with | (x13, x14) => pm_ev C_X2_passHour (d + 1) (pm_call M cost zext d) cost (false, false) 108 0 0 Q 65 [some (.ref 51), some (.ref 19), some (.ref 53), some (.int a3), some (.int x13)] [] 0 0 (zS p q I [(26, none, y8), (29, none, y9), (52, none, y12), (53, some 0, fun _ => (I 53 0)), (54, none, y10), (55, none, y11), (56, none, x14)] J []))) ?_ zFU ((0 : Int32), (I 56)) h
    rintro ⟨x13, x14⟩ h
    refine g_iload (pc' := 67)  hc rfl rfl rfl ?_
    refine g_aload_n (pc' := 68)  hc rfl rfl rfl rfl ?_
    refine z_getI (pc' := 71) (v := (I 19 3)) hc rfl rfl rfl sh_19 rfl rfl rfl ?_
    refine g_icmp_ge (pc' := 74) hc rfl rfl (fun hx => ?_) (fun hx => ?_)
    · replace h := zwp_t h hx
      replace h := zwp_r h
      exact h (some (.int x13)) rfl
    · replace h := zwp_f h hx
      refine g_aload_n (pc' := 75)  hc rfl rfl rfl rfl ?_
      refine z_getR (pc' := 78)  hc rfl rfl rfl sh_53 rfl rfl ?_
      refine g_iload (pc' := 80)  hc rfl rfl rfl ?_
      refine g_iconst (pc' := 81) (v := (0 : Int32)) hc rfl zki_0 rfl ?_
      refine g_aload_n (pc' := 82)  hc rfl rfl rfl rfl ?_
      refine z_getR (pc' := 85)  hc rfl rfl rfl sh_53 rfl rfl ?_
      refine g_iload (pc' := 87)  hc rfl rfl rfl ?_
      have hb := (zwp_bnd h).1
      replace h := (zwp_bnd h).2
      refine z_iaload (pc' := 88) (v := (x14 x13.toNatClampNeg)) hc rfl rfl sh_56 hb rfl rfl ?_
      refine g_iconst (pc' := 89) (v := (1 : Int32)) hc rfl zki_1 rfl ?_
      refine g_isub (pc' := 90)  hc rfl rfl ?_
      refine z_max (pc' := 93)  hc rfl rfl (zdq hd rfl) rfl rfl ?_
      have hb := (zwp_bnd h).1
      replace h := (zwp_bnd h).2
      refine z_iastore (pc' := 94) (g := x14) (L' := [(26, none, y8), (29, none, y9), (52, none, y12), (53, some 0, fun _ => (I 53 0)), (54, none, y10), (55, none, y11), (56, none, (upd x14 x13.toNatClampNeg (if (0 : Int32) < ((x14 x13.toNatClampNeg) - (1 : Int32)) then ((x14 x13.toNatClampNeg) - (1 : Int32)) else (0 : Int32))))]) hc rfl rfl sh_56 hb rfl rfl rfl rfl ?_
      refine g_iinc (pc' := 97) (ls1 := [some (.ref 51), some (.ref 19), some (.ref 53), some (.int a3), some (.int (x13 + (1 : Int32)))]) hc rfl rfl zki_1 (zlt rfl) rfl rfl ?_
      refine g_goto hc rfl ?_
      replace h := zwp_l h
      exact h
  refine zitr_ev (G := (fun (g : Int32 × (Nat → Int32) × (Nat → Int32) × (Nat → Int32) × (Nat → Int32) × (Nat → Int32)) => match g with | (x1, x2, x3, x4, x5, x6) => pm_ev C_X2_passHour (d + 1) (pm_call M cost zext d) cost (false, false) 108 0 0 Q 3 [some (.ref 51), some (.ref 19), some (.ref 53), some (.int a3), some (.int x1)] [] 0 0 (zS p q I [(26, none, x2), (29, none, x3), (52, none, x6), (53, some 0, fun _ => (I 53 0)), (54, none, x4), (55, none, x5), (56, none, (I 56))] J []))) ?_ zFU ((0 : Int32), (I 26), (I 29), (I 54), (I 55), (I 52)) h
  rintro ⟨x1, x2, x3, x4, x5, x6⟩ h
  refine g_iload (pc' := 5)  hc rfl rfl rfl ?_
  refine g_aload_n (pc' := 6)  hc rfl rfl rfl rfl ?_
  refine z_getI (pc' := 9) (v := (I 19 3)) hc rfl rfl rfl sh_19 rfl rfl rfl ?_
  refine g_icmp_ge (pc' := 12) hc rfl rfl (fun hx => ?_) (fun hx => ?_)
  · replace h := zwp_t h hx
    replace h := zwp_r h
    exact h (some (.int x1)) rfl
  · replace h := zwp_f h hx
    refine g_aload_n (pc' := 13)  hc rfl rfl rfl rfl ?_
    refine z_getR (pc' := 16)  hc rfl rfl rfl sh_53 rfl rfl ?_
    refine g_iload (pc' := 18)  hc rfl rfl rfl ?_
    have hb := (zwp_bnd h).1
    replace h := (zwp_bnd h).2
    refine z_iaload (pc' := 19) (v := (((I 56)) x1.toNatClampNeg)) hc rfl rfl sh_56 hb rfl rfl ?_
    refine g_if_le (pc' := 22) hc rfl rfl (fun hx => ?_) (fun hx => ?_)
    · replace h := zwp_t h hx
      refine g_aload_n (pc' := 38)  hc rfl rfl rfl rfl ?_
      refine g_aload_n (pc' := 39)  hc rfl rfl rfl rfl ?_
      refine g_aload_n (pc' := 40)  hc rfl rfl rfl rfl ?_
      refine g_iload (pc' := 42)  hc rfl rfl rfl ?_
      refine z_virt (as := [.ref 19, .ref 53, .int x1]) (a := 51) (r := []) hc rfl rfl rfl rfl sh_51 rfl zco_16 rfl rfl rfl ?_
      refine ok_X2_wantsToGo_51_19_53 (zdp hd rfl) (zwp_mono (zwp_bind h) ?_)
      rintro ⟨r19, o17, o18⟩ h
      refine z_po (pc' := 45) (st' := [.int r19]) (v := (some (.int r19))) (L' := [(26, none, o17), (29, none, x3), (52, none, o18), (53, some 0, fun _ => (I 53 0)), (54, none, x4), (55, none, x5), (56, none, (I 56))]) (K' := []) zco_16 rfl rfl rfl rfl rfl rfl rfl rfl ?_
      refine g_if_eq (pc' := 48) hc rfl rfl (fun hx => ?_) (fun hx => ?_)
      · replace h := zwp_t h hx
        refine g_iinc (pc' := 59) (ls1 := [some (.ref 51), some (.ref 19), some (.ref 53), some (.int a3), some (.int (x1 + (1 : Int32)))]) hc rfl rfl zki_1 (zlt rfl) rfl rfl ?_
        refine g_goto hc rfl ?_
        replace h := zwp_l h
        exact h
      · replace h := zwp_f h hx
        refine g_aload_n (pc' := 49)  hc rfl rfl rfl rfl ?_
        refine g_aload_n (pc' := 50)  hc rfl rfl rfl rfl ?_
        refine g_aload_n (pc' := 51)  hc rfl rfl rfl rfl ?_
        refine g_iload (pc' := 53)  hc rfl rfl rfl ?_
        refine z_virt (as := [.ref 19, .ref 53, .int x1]) (a := 51) (r := []) hc rfl rfl rfl rfl sh_51 rfl zco_17 rfl rfl rfl ?_
        refine ok_X2_go_51_19_53 (zdp hd rfl) (zwp_mono (zwp_bind h) ?_)
        rintro o20 h
        refine z_po (pc' := 56) (st' := []) (v := none) (L' := [(26, none, o17), (29, none, x3), (52, none, o18), (53, some 0, fun _ => (I 53 0)), (54, none, o20), (55, none, x5), (56, none, (I 56))]) (K' := []) zco_17 rfl rfl rfl rfl rfl rfl rfl rfl ?_
        refine g_iinc (pc' := 59) (ls1 := [some (.ref 51), some (.ref 19), some (.ref 53), some (.int a3), some (.int (x1 + (1 : Int32)))]) hc rfl rfl zki_1 (zlt rfl) rfl rfl ?_
        refine g_goto hc rfl ?_
        replace h := zwp_l h
        exact h
    · replace h := zwp_f h hx
      refine g_iload_n (pc' := 23)  hc rfl rfl rfl ?_
      refine g_if_ne (pc' := 26) hc rfl rfl (fun hx => ?_) (fun hx => ?_)
      · replace h := zwp_f h hx
        refine g_aload_n (pc' := 38)  hc rfl rfl rfl rfl ?_
        refine g_aload_n (pc' := 39)  hc rfl rfl rfl rfl ?_
        refine g_aload_n (pc' := 40)  hc rfl rfl rfl rfl ?_
        refine g_iload (pc' := 42)  hc rfl rfl rfl ?_
        refine z_virt (as := [.ref 19, .ref 53, .int x1]) (a := 51) (r := []) hc rfl rfl rfl rfl sh_51 rfl zco_16 rfl rfl rfl ?_
        refine ok_X2_wantsToGo_51_19_53 (zdp hd rfl) (zwp_mono (zwp_bind h) ?_)
        rintro ⟨r23, o21, o22⟩ h
        refine z_po (pc' := 45) (st' := [.int r23]) (v := (some (.int r23))) (L' := [(26, none, o21), (29, none, x3), (52, none, o22), (53, some 0, fun _ => (I 53 0)), (54, none, x4), (55, none, x5), (56, none, (I 56))]) (K' := []) zco_16 rfl rfl rfl rfl rfl rfl rfl rfl ?_
        refine g_if_eq (pc' := 48) hc rfl rfl (fun hx => ?_) (fun hx => ?_)
        · replace h := zwp_t h hx
          refine g_iinc (pc' := 59) (ls1 := [some (.ref 51), some (.ref 19), some (.ref 53), some (.int a3), some (.int (x1 + (1 : Int32)))]) hc rfl rfl zki_1 (zlt rfl) rfl rfl ?_
          refine g_goto hc rfl ?_
          replace h := zwp_l h
          exact h
        · replace h := zwp_f h hx
          refine g_aload_n (pc' := 49)  hc rfl rfl rfl rfl ?_
          refine g_aload_n (pc' := 50)  hc rfl rfl rfl rfl ?_
          refine g_aload_n (pc' := 51)  hc rfl rfl rfl rfl ?_
          refine g_iload (pc' := 53)  hc rfl rfl rfl ?_
          refine z_virt (as := [.ref 19, .ref 53, .int x1]) (a := 51) (r := []) hc rfl rfl rfl rfl sh_51 rfl zco_17 rfl rfl rfl ?_
          refine ok_X2_go_51_19_53 (zdp hd rfl) (zwp_mono (zwp_bind h) ?_)
          rintro o24 h
          refine z_po (pc' := 56) (st' := []) (v := none) (L' := [(26, none, o21), (29, none, x3), (52, none, o22), (53, some 0, fun _ => (I 53 0)), (54, none, o24), (55, none, x5), (56, none, (I 56))]) (K' := []) zco_17 rfl rfl rfl rfl rfl rfl rfl rfl ?_
          refine g_iinc (pc' := 59) (ls1 := [some (.ref 51), some (.ref 19), some (.ref 53), some (.int a3), some (.int (x1 + (1 : Int32)))]) hc rfl rfl zki_1 (zlt rfl) rfl rfl ?_
          refine g_goto hc rfl ?_
          replace h := zwp_l h
          exact h
      · replace h := zwp_t h hx
        refine g_aload_n (pc' := 27)  hc rfl rfl rfl rfl ?_
        refine g_aload_n (pc' := 28)  hc rfl rfl rfl rfl ?_
        refine g_aload_n (pc' := 29)  hc rfl rfl rfl rfl ?_
        refine g_iload (pc' := 31)  hc rfl rfl rfl ?_
        refine z_virt (as := [.ref 19, .ref 53, .int x1]) (a := 51) (r := []) hc rfl rfl rfl rfl sh_51 rfl zco_15 rfl rfl rfl ?_
        refine ok_X2_hurt_51_19_53 (zdp hd rfl) (zwp_mono (zwp_bind h) ?_)
        rintro ⟨o25, o26, o27⟩ h
        refine z_po (pc' := 34) (st' := []) (v := none) (L' := [(26, none, x2), (29, none, o25), (52, none, o27), (53, some 0, fun _ => (I 53 0)), (54, none, x4), (55, none, o26), (56, none, (I 56))]) (K' := []) zco_15 rfl rfl rfl rfl rfl rfl rfl rfl ?_
        refine g_goto hc rfl ?_
        refine g_iinc (pc' := 59) (ls1 := [some (.ref 51), some (.ref 19), some (.ref 53), some (.int a3), some (.int (x1 + (1 : Int32)))]) hc rfl rfl zki_1 (zlt rfl) rfl rfl ?_
        refine g_goto hc rfl ?_
        replace h := zwp_l h
        exact h
set_option maxRecDepth 4000 in
theorem ok_X2_passHours_51_19_53 {p q : Nat} {I : pI} {J : pJ} {a3 : Int32} {Q : pQ} {d : Nat} (hd : 5 ≤ d) (h : zwp (f_X2_passHours a3 (I 19 12) (I 19 3) (I 27) (I 25 2) (I 26) (I 19 1) (I 30) (I 28 2) (I 29) (I 24) (I 19 9) (I 21) (I 22) (I 19 0) (I 54) (I 53 3) (I 56) (I 53 0) (I 57) (I 55) (J 53 2) (I 52)) (fun w => match w with | (o0, o1, o2, o3, o4, o5, o6) => Q (.inl none) (zS p q I [(26, none, o0), (29, none, o1), (52, none, o6), (53, some 0, fun _ => o4), (54, none, o2), (55, none, o5), (56, none, o3)] J []))) : pm_call M cost zext d 13 [.ref 51, .ref 19, .ref 53, .int a3] (pm_st 108 (shp p q) I J) Q := by
  obtain ⟨d, rfl⟩ := zd1 hd rfl
  have hc := pm_call_m (M := M) (cost := cost) zext_m d
  refine z_in (L := [(26, none, (I 26)), (29, none, (I 29)), (52, none, (I 52)), (53, some 0, fun _ => (I 53 0)), (54, none, (I 54)), (55, none, (I 55)), (56, none, (I 56))]) (K := []) (ls := [some (.ref 51), some (.ref 19), some (.ref 53), some (.int a3), none]) zmt_13 zco_13 rfl rfl (zid_a (zid_a (zid_a (zid_s (zid_a (zid_a (zid_a zid_n))))))) zid_n ?_
  delta f_X2_passHours at h
  refine g_iconst (pc' := 1) (v := (0 : Int32)) hc rfl zki_0 rfl ?_
  refine g_istore (pc' := 3) (ls1 := [some (.ref 51), some (.ref 19), some (.ref 53), some (.int a3), some (.int (0 : Int32))]) hc rfl (zlt rfl) rfl rfl ?_
  refine zjn (G := (fun (g : (Nat → Int32) × (Nat → Int32) × (Nat → Int32) × (Nat → Int32) × Int32 × (Nat → Int32) × (Nat → Int32)) => match g with | (y10, y11, y12, y13, y14, y15, y16) => ∀ z9 : Option Value, znl z9 = true → pm_ev C_X2_passHours (d + 1) (pm_call M cost zext d) cost (false, false) 108 0 0 Q 29 [some (.ref 51), some (.ref 19), some (.ref 53), some (.int a3), z9] [] 0 0 (zS p q I [(26, none, y10), (29, none, y11), (52, none, y16), (53, some 0, fun _ => y14), (54, none, y12), (55, none, y15), (56, none, y13)] J []))) (zwp_bind h) ?_ (fun h => ?_)
  · rintro ⟨y10, y11, y12, y13, y14, y15, y16⟩ h z9 hz9
    replace h := zws h
    exact g_return hc rfl rfl (fun _ => ⟨rfl, rfl⟩) h
  refine zitr_ev (G := (fun (g : Int32 × (Nat → Int32) × (Nat → Int32) × (Nat → Int32) × (Nat → Int32) × Int32 × (Nat → Int32) × (Nat → Int32)) => match g with | (x1, x2, x3, x4, x5, x6, x7, x8) => pm_ev C_X2_passHours (d + 1) (pm_call M cost zext d) cost (false, false) 108 0 0 Q 3 [some (.ref 51), some (.ref 19), some (.ref 53), some (.int a3), some (.int x1)] [] 0 0 (zS p q I [(26, none, x2), (29, none, x3), (52, none, x8), (53, some 0, fun _ => x6), (54, none, x4), (55, none, x7), (56, none, x5)] J []))) ?_ zFU ((0 : Int32), (I 26), (I 29), (I 54), (I 56), (I 53 0), (I 55), (I 52)) h
  rintro ⟨x1, x2, x3, x4, x5, x6, x7, x8⟩ h
  refine g_iload (pc' := 5)  hc rfl rfl rfl ?_
  refine g_iload_n (pc' := 6)  hc rfl rfl rfl ?_
  refine g_icmp_ge (pc' := 9) hc rfl rfl (fun hx => ?_) (fun hx => ?_)
  · replace h := zwp_t h hx
    replace h := zwp_r h
    exact h (some (.int x1)) rfl
  · replace h := zwp_f h hx
    refine g_aload_n (pc' := 10)  hc rfl rfl rfl rfl ?_
    refine g_aload_n (pc' := 11)  hc rfl rfl rfl rfl ?_
    refine g_aload_n (pc' := 12)  hc rfl rfl rfl rfl ?_
    refine g_aload_n (pc' := 13)  hc rfl rfl rfl rfl ?_
    refine g_aload_n (pc' := 14)  hc rfl rfl rfl rfl ?_
    refine z_getI (pc' := 17) (v := x6) hc rfl rfl rfl sh_53 rfl rfl rfl ?_
    refine z_virt (as := [.int x6]) (a := 19) (r := [.ref 53, .ref 19, .ref 51]) hc rfl rfl rfl rfl sh_19 rfl zco_23 rfl rfl rfl ?_
    refine ok_X3_isDull_19 (zdp hd rfl) (zwp_mono (zwp_bind h) ?_)
    rintro r17 h
    refine z_po (pc' := 20) (st' := [.int r17, .ref 53, .ref 19, .ref 51]) (v := (some (.int r17))) (L' := [(26, none, x2), (29, none, x3), (52, none, x8), (53, some 0, fun _ => x6), (54, none, x4), (55, none, x7), (56, none, x5)]) (K' := []) zco_23 rfl rfl rfl rfl rfl rfl rfl rfl ?_
    refine z_virt (as := [.ref 19, .ref 53, .int r17]) (a := 51) (r := []) hc rfl rfl rfl rfl sh_51 rfl zco_14 rfl rfl rfl ?_
    refine ok_X2_passHour_51_19_53 (zdp hd rfl) (zwp_mono (zwp_bind h) ?_)
    rintro ⟨o18, o19, o20, o21, o22, o23, o24⟩ h
    refine z_po (pc' := 23) (st' := []) (v := none) (L' := [(26, none, o18), (29, none, o19), (52, none, o24), (53, some 0, fun _ => o22), (54, none, o20), (55, none, o23), (56, none, o21)]) (K' := []) zco_14 rfl rfl rfl rfl rfl rfl rfl rfl ?_
    refine g_iinc (pc' := 26) (ls1 := [some (.ref 51), some (.ref 19), some (.ref 53), some (.int a3), some (.int (x1 + (1 : Int32)))]) hc rfl rfl zki_1 (zlt rfl) rfl rfl ?_
    refine g_goto hc rfl ?_
    replace h := zwp_l h
    exact h
set_option maxRecDepth 4000 in
theorem ok_X11_foresee_0_q {I : pI} {J : pJ} {a1 : Int32} {Q : pQ} {d : Nat} (hd : 6 ≤ d) (h : zwp (f_X11_foresee a1 (I 54) (I 53 3) (I 56) (I 53 0) (I 57) (I 53 1) (I 55) (J 53 2) (I 52) (I 32) (I 31 3) (I 34) (I 31 0) (I 35) (I 31 1) (I 33) (J 31 2) (I 19 12) (I 19 3) (I 27) (I 25 2) (I 26) (I 19 1) (I 30) (I 28 2) (I 29) (I 24) (I 19 9) (I 21) (I 22) (I 19 0)) (fun w => match w with | (o0, o1, o2, o3, o4, o5, o6, o7, o8, o9, o10) => Q (.inl none) (zS 19 7 I [(26, none, o9), (29, none, o10), (52, none, o8), (53, some 0, fun _ => o3), (53, some 1, fun _ => o5), (53, some 3, fun _ => o1), (54, none, o0), (55, none, o6), (56, none, o2), (57, none, o4)] J [(53, some 2, fun _ => o7)]))) : pm_call M cost zext d 139 [.ref 0, .int a1] (pm_st 108 (shp 19 7) I J) Q := by
  obtain ⟨d, rfl⟩ := zd1 hd rfl
  have hc := pm_call_m (M := M) (cost := cost) zext_m d
  refine z_in (L := [(26, none, (I 26)), (29, none, (I 29)), (52, none, (I 52)), (53, some 0, fun _ => (I 53 0)), (53, some 1, fun _ => (I 53 1)), (53, some 3, fun _ => (I 53 3)), (54, none, (I 54)), (55, none, (I 55)), (56, none, (I 56)), (57, none, (I 57))]) (K := [(53, some 2, fun _ => (J 53 2))]) (ls := [some (.ref 0), some (.int a1)]) zmt_139 zco_139 rfl rfl (zid_a (zid_a (zid_a (zid_s (zid_s (zid_s (zid_a (zid_a (zid_a (zid_a zid_n)))))))))) (zid_s zid_n) ?_
  delta f_X11_foresee at h
  refine g_aload_n (pc' := 1)  hc rfl rfl rfl rfl ?_
  refine z_getR (pc' := 4)  hc rfl rfl rfl sh_0 rfl rfl ?_
  refine g_aload_n (pc' := 5)  hc rfl rfl rfl rfl ?_
  refine z_getR (pc' := 8)  hc rfl rfl rfl sh_0 rfl rfl ?_
  refine z_virt (as := [.ref 31]) (a := 53) (r := []) hc rfl rfl rfl rfl sh_53 rfl zco_68 rfl rfl rfl ?_
  refine ok_X8_copyFrom_53_31 (zdp hd rfl) (zwp_mono (zwp_bind h) ?_)
  rintro ⟨o1, o2, o3, o4, o5, o6, o7, o8⟩ h
  refine z_po (pc' := 11) (st' := []) (v := none) (L' := [(26, none, (I 26)), (29, none, (I 29)), (52, none, (I 52)), (53, some 0, fun _ => o4), (53, some 1, fun _ => o6), (53, some 3, fun _ => o2), (54, none, o1), (55, none, o7), (56, none, o3), (57, none, o5)]) (K' := [(53, some 2, fun _ => o8)]) zco_68 rfl rfl rfl rfl rfl rfl rfl rfl ?_
  refine g_aload_n (pc' := 12)  hc rfl rfl rfl rfl ?_
  refine z_getR (pc' := 15)  hc rfl rfl rfl sh_0 rfl rfl ?_
  refine g_aload_n (pc' := 16)  hc rfl rfl rfl rfl ?_
  refine z_getR (pc' := 19)  hc rfl rfl rfl sh_0 rfl rfl ?_
  refine g_aload_n (pc' := 20)  hc rfl rfl rfl rfl ?_
  refine z_getR (pc' := 23)  hc rfl rfl rfl sh_0 rfl rfl ?_
  refine g_iload_n (pc' := 24)  hc rfl rfl rfl ?_
  refine z_virt (as := [.ref 19, .ref 53, .int a1]) (a := 51) (r := []) hc rfl rfl rfl rfl sh_51 rfl zco_13 rfl rfl rfl ?_
  refine ok_X2_passHours_51_19_53 (zdp hd rfl) (zwp_mono (zwp_bind h) ?_)
  rintro ⟨o9, o10, o11, o12, o13, o14, o15⟩ h
  refine z_po (pc' := 27) (st' := []) (v := none) (L' := [(26, none, o9), (29, none, o10), (52, none, o15), (53, some 0, fun _ => o13), (53, some 1, fun _ => o6), (53, some 3, fun _ => o2), (54, none, o11), (55, none, o14), (56, none, o12), (57, none, o5)]) (K' := [(53, some 2, fun _ => o8)]) zco_13 rfl rfl rfl rfl rfl rfl rfl rfl ?_
  replace h := zws h
  exact g_return hc rfl rfl (fun _ => ⟨rfl, rfl⟩) h
set_option maxRecDepth 4000 in
theorem ok_X11_passFuture_0_q {I : pI} {J : pJ} {Q : pQ} {d : Nat} (hd : 5 ≤ d) (h : zwp (f_X11_passFuture (I 54) (I 53 3) (I 56) (I 53 0) (I 57) (I 55) (J 53 2) (I 52) (I 19 12) (I 19 3) (I 27) (I 25 2) (I 26) (I 19 1) (I 30) (I 28 2) (I 29) (I 24) (I 19 9) (I 21) (I 22) (I 19 0)) (fun w => match w with | (o0, o1, o2, o3, o4, o5, o6) => Q (.inl none) (zS 19 7 I [(26, none, o5), (29, none, o6), (52, none, o4), (53, some 0, fun _ => o2), (54, none, o0), (55, none, o3), (56, none, o1)] J []))) : pm_call M cost zext d 140 [.ref 0] (pm_st 108 (shp 19 7) I J) Q := by
  obtain ⟨d, rfl⟩ := zd1 hd rfl
  have hc := pm_call_m (M := M) (cost := cost) zext_m d
  refine z_in (L := [(26, none, (I 26)), (29, none, (I 29)), (52, none, (I 52)), (53, some 0, fun _ => (I 53 0)), (54, none, (I 54)), (55, none, (I 55)), (56, none, (I 56))]) (K := []) (ls := [some (.ref 0)]) zmt_140 zco_140 rfl rfl (zid_a (zid_a (zid_a (zid_s (zid_a (zid_a (zid_a zid_n))))))) zid_n ?_
  delta f_X11_passFuture at h
  refine g_aload_n (pc' := 1)  hc rfl rfl rfl rfl ?_
  refine z_getR (pc' := 4)  hc rfl rfl rfl sh_0 rfl rfl ?_
  refine g_aload_n (pc' := 5)  hc rfl rfl rfl rfl ?_
  refine z_getR (pc' := 8)  hc rfl rfl rfl sh_0 rfl rfl ?_
  refine g_aload_n (pc' := 9)  hc rfl rfl rfl rfl ?_
  refine z_getR (pc' := 12)  hc rfl rfl rfl sh_0 rfl rfl ?_
  refine g_aload_n (pc' := 13)  hc rfl rfl rfl rfl ?_
  refine z_getR (pc' := 16)  hc rfl rfl rfl sh_0 rfl rfl ?_
  refine g_aload_n (pc' := 17)  hc rfl rfl rfl rfl ?_
  refine z_getR (pc' := 20)  hc rfl rfl rfl sh_0 rfl rfl ?_
  refine z_getI (pc' := 23) (v := (I 53 0)) hc rfl rfl rfl sh_53 rfl rfl rfl ?_
  refine z_virt (as := [.int (I 53 0)]) (a := 19) (r := [.ref 53, .ref 19, .ref 51]) hc rfl rfl rfl rfl sh_19 rfl zco_23 rfl rfl rfl ?_
  refine ok_X3_isDull_19 (zdp hd rfl) (zwp_mono (zwp_bind h) ?_)
  rintro r1 h
  refine z_po (pc' := 26) (st' := [.int r1, .ref 53, .ref 19, .ref 51]) (v := (some (.int r1))) (L' := [(26, none, (I 26)), (29, none, (I 29)), (52, none, (I 52)), (53, some 0, fun _ => (I 53 0)), (54, none, (I 54)), (55, none, (I 55)), (56, none, (I 56))]) (K' := []) zco_23 rfl rfl rfl rfl rfl rfl rfl rfl ?_
  refine z_virt (as := [.ref 19, .ref 53, .int r1]) (a := 51) (r := []) hc rfl rfl rfl rfl sh_51 rfl zco_14 rfl rfl rfl ?_
  refine ok_X2_passHour_51_19_53 (zdp hd rfl) (zwp_mono (zwp_bind h) ?_)
  rintro ⟨o2, o3, o4, o5, o6, o7, o8⟩ h
  refine z_po (pc' := 29) (st' := []) (v := none) (L' := [(26, none, o2), (29, none, o3), (52, none, o8), (53, some 0, fun _ => o6), (54, none, o4), (55, none, o7), (56, none, o5)]) (K' := []) zco_14 rfl rfl rfl rfl rfl rfl rfl rfl ?_
  replace h := zws h
  exact g_return hc rfl rfl (fun _ => ⟨rfl, rfl⟩) h
set_option maxRecDepth 4000 in
theorem ok_X11_round_0_q {I : pI} {J : pJ} {Q : pQ} {d : Nat} (hd : 7 ≤ d) (h : zwp (f_X11_round (I 54) (I 53 3) (I 56) (I 53 0) (I 57) (I 53 1) (I 55) (J 53 2) (I 52) (I 32) (I 31 3) (I 34) (I 31 0) (I 35) (I 31 1) (I 33) (J 31 2) (I 19 12) (I 19 3) (I 27) (I 25 2) (I 26) (I 19 1) (I 30) (I 28 2) (I 29) (I 24) (I 19 9) (I 21) (I 22) (I 19 0)) (fun w => match w with | (r, o0, o1, o2, o3, o4, o5, o6, o7, o8, o9, o10) => Q (.inl (some (.int r))) (zS 19 7 I [(26, none, o9), (29, none, o10), (52, none, o8), (53, some 0, fun _ => o3), (53, some 1, fun _ => o5), (53, some 3, fun _ => o1), (54, none, o0), (55, none, o6), (56, none, o2), (57, none, o4)] J [(53, some 2, fun _ => o7)]))) : pm_call M cost zext d 113 [.ref 0] (pm_st 108 (shp 19 7) I J) Q := by
  obtain ⟨d, rfl⟩ := zd1 hd rfl
  have hc := pm_call_m (M := M) (cost := cost) zext_m d
  refine z_in (L := [(26, none, (I 26)), (29, none, (I 29)), (52, none, (I 52)), (53, some 0, fun _ => (I 53 0)), (53, some 1, fun _ => (I 53 1)), (53, some 3, fun _ => (I 53 3)), (54, none, (I 54)), (55, none, (I 55)), (56, none, (I 56)), (57, none, (I 57))]) (K := [(53, some 2, fun _ => (J 53 2))]) (ls := [some (.ref 0), none]) zmt_113 zco_113 rfl rfl (zid_a (zid_a (zid_a (zid_s (zid_s (zid_s (zid_a (zid_a (zid_a (zid_a zid_n)))))))))) (zid_s zid_n) ?_
  delta f_X11_round at h
  refine g_aload_n (pc' := 1)  hc rfl rfl rfl rfl ?_
  refine g_iconst (pc' := 2) (v := (0 : Int32)) hc rfl zki_0 rfl ?_
  refine z_virt (as := [.int (0 : Int32)]) (a := 0) (r := []) hc rfl rfl rfl rfl sh_0 rfl zco_139 rfl rfl rfl ?_
  refine ok_X11_foresee_0_q (zdp hd rfl) (zwp_mono (zwp_bind h) ?_)
  rintro ⟨o1, o2, o3, o4, o5, o6, o7, o8, o9, o10, o11⟩ h
  refine z_po (pc' := 5) (st' := []) (v := none) (L' := [(26, none, o10), (29, none, o11), (52, none, o9), (53, some 0, fun _ => o4), (53, some 1, fun _ => o6), (53, some 3, fun _ => o2), (54, none, o1), (55, none, o7), (56, none, o3), (57, none, o5)]) (K' := [(53, some 2, fun _ => o8)]) zco_139 rfl rfl rfl rfl rfl rfl rfl rfl ?_
  refine g_iconst (pc' := 6) (v := (1 : Int32)) hc rfl zki_1 rfl ?_
  refine g_istore_n (pc' := 7) (ls1 := [some (.ref 0), some (.int (1 : Int32))]) hc rfl (zlt rfl) rfl rfl ?_
  refine zjs (G := (fun (g : (Nat → Int32) × (Nat → Int32) × Int32 × (Nat → Int32) × (Nat → Int32) × (Nat → Int32) × (Nat → Int32)) => match g with | (y21, y22, y23, y24, y25, y26, y27) => ∀ z20 : Option Value, znl z20 = true → pm_ev C_X11_round (d + 1) (pm_call M cost zext d) cost (false, false) 108 0 0 Q 40 [some (.ref 0), z20] [] 0 0 (zS 19 7 I [(26, none, y26), (29, none, y27), (52, none, y25), (53, some 0, fun _ => y23), (53, some 1, fun _ => o6), (53, some 3, fun _ => o2), (54, none, y21), (55, none, y24), (56, none, y22), (57, none, o5)] J [(53, some 2, fun _ => o8)]))) h ?_ (fun h => ?_)
  · rintro ⟨y21, y22, y23, y24, y25, y26, y27⟩ h z20 hz20
    refine g_iconst (pc' := 41) (v := (-1 : Int32)) hc rfl zki_m1 rfl ?_
    replace h := zws h
    exact g_ireturn hc rfl rfl rfl (fun _ => ⟨rfl, rfl⟩) h
  refine zitr_ev (G := (fun (g : Int32 × (Nat → Int32) × (Nat → Int32) × Int32 × (Nat → Int32) × (Nat → Int32) × (Nat → Int32) × (Nat → Int32)) => match g with | (x12, x13, x14, x15, x16, x17, x18, x19) => pm_ev C_X11_round (d + 1) (pm_call M cost zext d) cost (false, false) 108 0 0 Q 7 [some (.ref 0), some (.int x12)] [] 0 0 (zS 19 7 I [(26, none, x18), (29, none, x19), (52, none, x17), (53, some 0, fun _ => x15), (53, some 1, fun _ => o6), (53, some 3, fun _ => o2), (54, none, x13), (55, none, x16), (56, none, x14), (57, none, o5)] J [(53, some 2, fun _ => o8)]))) ?_ zFU ((1 : Int32), o1, o3, o4, o7, o9, o10, o11) h
  rintro ⟨x12, x13, x14, x15, x16, x17, x18, x19⟩ h
  refine g_iload_n (pc' := 8)  hc rfl rfl rfl ?_
  refine g_sipush (pc' := 11) (v := (200 : Int32)) hc rfl zks_200 rfl ?_
  refine g_icmp_gt (pc' := 14) hc rfl rfl (fun hx => ?_) (fun hx => ?_)
  · replace h := zwp_t h hx
    replace h := zwp_r h
    exact h (some (.int x12)) rfl
  · replace h := zwp_f h hx
    refine g_aload_n (pc' := 15)  hc rfl rfl rfl rfl ?_
    refine z_virt (as := []) (a := 0) (r := []) hc rfl rfl rfl rfl sh_0 rfl zco_140 rfl rfl rfl ?_
    refine ok_X11_passFuture_0_q (zdp hd rfl) (zwp_mono (zwp_bind h) ?_)
    rintro ⟨o28, o29, o30, o31, o32, o33, o34⟩ h
    refine z_po (pc' := 18) (st' := []) (v := none) (L' := [(26, none, o33), (29, none, o34), (52, none, o32), (53, some 0, fun _ => o30), (53, some 1, fun _ => o6), (53, some 3, fun _ => o2), (54, none, o28), (55, none, o31), (56, none, o29), (57, none, o5)]) (K' := [(53, some 2, fun _ => o8)]) zco_140 rfl rfl rfl rfl rfl rfl rfl rfl ?_
    refine g_aload_n (pc' := 19)  hc rfl rfl rfl rfl ?_
    refine z_getR (pc' := 22)  hc rfl rfl rfl sh_0 rfl rfl ?_
    refine g_aload_n (pc' := 23)  hc rfl rfl rfl rfl ?_
    refine z_getR (pc' := 26)  hc rfl rfl rfl sh_0 rfl rfl ?_
    refine z_virt (as := [.ref 31]) (a := 53) (r := []) hc rfl rfl rfl rfl sh_53 rfl zco_76 rfl rfl rfl ?_
    refine ok_X8_isPlacedAs_53_31 (zdp hd rfl) (zwp_mono (zwp_bind h) ?_)
    rintro r35 h
    refine z_po (pc' := 29) (st' := [.int r35]) (v := (some (.int r35))) (L' := [(26, none, o33), (29, none, o34), (52, none, o32), (53, some 0, fun _ => o30), (53, some 1, fun _ => o6), (53, some 3, fun _ => o2), (54, none, o28), (55, none, o31), (56, none, o29), (57, none, o5)]) (K' := [(53, some 2, fun _ => o8)]) zco_76 rfl rfl rfl rfl rfl rfl rfl rfl ?_
    refine g_if_eq (pc' := 32) hc rfl rfl (fun hx => ?_) (fun hx => ?_)
    · replace h := zwp_t h hx
      refine g_iinc (pc' := 37) (ls1 := [some (.ref 0), some (.int (x12 + (1 : Int32)))]) hc rfl rfl zki_1 (zlt rfl) rfl rfl ?_
      refine g_goto hc rfl ?_
      replace h := zwp_l h
      exact h
    · replace h := zwp_f h hx
      refine g_iload_n (pc' := 33)  hc rfl rfl rfl ?_
      replace h := zws h
      exact g_ireturn hc rfl rfl rfl (fun _ => ⟨rfl, rfl⟩) h
set_option maxRecDepth 4000 in
theorem ok_X5_clear_13 {p q : Nat} {I : pI} {J : pJ} {Q : pQ} {d : Nat} (hd : 1 ≤ d) (h : zwp (f_X5_clear (I 13 2)) (fun o0 => Q (.inl none) (zS p q I [(13, some 2, fun _ => o0)] J []))) : pm_call M cost zext d 42 [.ref 13] (pm_st 108 (shp p q) I J) Q := by
  obtain ⟨d, rfl⟩ := zd1 hd rfl
  have hc := pm_call_m (M := M) (cost := cost) zext_m d
  refine z_in (L := [(13, some 2, fun _ => (I 13 2))]) (K := []) (ls := [some (.ref 13)]) zmt_42 zco_42 rfl rfl (zid_s zid_n) zid_n ?_
  delta f_X5_clear at h
  refine g_aload_n (pc' := 1)  hc rfl rfl rfl rfl ?_
  refine g_iconst (pc' := 2) (v := (0 : Int32)) hc rfl zki_0 rfl ?_
  refine z_putI (pc' := 5) (L' := [(13, some 2, fun _ => (0 : Int32))]) hc rfl rfl rfl sh_13 rfl zft_5_2 rfl (fun h => Bool.noConfusion h) rfl rfl rfl ?_
  replace h := zws h
  exact g_return hc rfl rfl (fun _ => ⟨rfl, rfl⟩) h
set_option maxRecDepth 4000 in
theorem ok_X5_clear_16 {p q : Nat} {I : pI} {J : pJ} {Q : pQ} {d : Nat} (hd : 1 ≤ d) (h : zwp (f_X5_clear (I 16 2)) (fun o0 => Q (.inl none) (zS p q I [(16, some 2, fun _ => o0)] J []))) : pm_call M cost zext d 42 [.ref 16] (pm_st 108 (shp p q) I J) Q := by
  obtain ⟨d, rfl⟩ := zd1 hd rfl
  have hc := pm_call_m (M := M) (cost := cost) zext_m d
  refine z_in (L := [(16, some 2, fun _ => (I 16 2))]) (K := []) (ls := [some (.ref 16)]) zmt_42 zco_42 rfl rfl (zid_s zid_n) zid_n ?_
  delta f_X5_clear at h
  refine g_aload_n (pc' := 1)  hc rfl rfl rfl rfl ?_
  refine g_iconst (pc' := 2) (v := (0 : Int32)) hc rfl zki_0 rfl ?_
  refine z_putI (pc' := 5) (L' := [(16, some 2, fun _ => (0 : Int32))]) hc rfl rfl rfl sh_16 rfl zft_5_2 rfl (fun h => Bool.noConfusion h) rfl rfl rfl ?_
  replace h := zws h
  exact g_return hc rfl rfl (fun _ => ⟨rfl, rfl⟩) h
set_option maxRecDepth 4000 in
theorem ok_X3_clear_7 {p q : Nat} {I : pI} {J : pJ} {Q : pQ} {d : Nat} (hd : 2 ≤ d) (h : zwp (f_X3_clear (I 7 12) (I 7 11) (I 7 3) (I 13 2) (I 7 1) (I 16 2) (I 7 9) (I 7 7) (J 7 2) (I 7 0)) (fun w => match w with | (o0, o1, o2, o3, o4, o5, o6, o7, o8, o9) => Q (.inl none) (zS p q I [(7, some 0, fun _ => o9), (7, some 1, fun _ => o4), (7, some 3, fun _ => o2), (7, some 7, fun _ => o7), (7, some 9, fun _ => o6), (7, some 11, fun _ => o1), (7, some 12, fun _ => o0), (13, some 2, fun _ => o3), (16, some 2, fun _ => o5)] J [(7, some 2, fun _ => o8)]))) : pm_call M cost zext d 20 [.ref 7] (pm_st 108 (shp p q) I J) Q := by
  obtain ⟨d, rfl⟩ := zd1 hd rfl
  have hc := pm_call_m (M := M) (cost := cost) zext_m d
  refine z_in (L := [(7, some 0, fun _ => (I 7 0)), (7, some 1, fun _ => (I 7 1)), (7, some 3, fun _ => (I 7 3)), (7, some 7, fun _ => (I 7 7)), (7, some 9, fun _ => (I 7 9)), (7, some 11, fun _ => (I 7 11)), (7, some 12, fun _ => (I 7 12)), (13, some 2, fun _ => (I 13 2)), (16, some 2, fun _ => (I 16 2))]) (K := [(7, some 2, fun _ => (J 7 2))]) (ls := [some (.ref 7)]) zmt_20 zco_20 rfl rfl (zid_s (zid_s (zid_s (zid_s (zid_s (zid_s (zid_s (zid_s (zid_s zid_n))))))))) (zid_s zid_n) ?_
  delta f_X3_clear at h
  refine g_aload_n (pc' := 1)  hc rfl rfl rfl rfl ?_
  refine g_iconst (pc' := 2) (v := (5 : Int32)) hc rfl zki_5 rfl ?_
  refine z_putI (pc' := 5) (L' := [(7, some 0, fun _ => (5 : Int32)), (7, some 1, fun _ => (I 7 1)), (7, some 3, fun _ => (I 7 3)), (7, some 7, fun _ => (I 7 7)), (7, some 9, fun _ => (I 7 9)), (7, some 11, fun _ => (I 7 11)), (7, some 12, fun _ => (I 7 12)), (13, some 2, fun _ => (I 13 2)), (16, some 2, fun _ => (I 16 2))]) hc rfl rfl rfl sh_7 rfl zft_3_0 rfl (fun h => Bool.noConfusion h) rfl rfl rfl ?_
  refine g_aload_n (pc' := 6)  hc rfl rfl rfl rfl ?_
  refine g_iconst (pc' := 7) (v := (4 : Int32)) hc rfl zki_4 rfl ?_
  refine z_putI (pc' := 10) (L' := [(7, some 0, fun _ => (5 : Int32)), (7, some 1, fun _ => (4 : Int32)), (7, some 3, fun _ => (I 7 3)), (7, some 7, fun _ => (I 7 7)), (7, some 9, fun _ => (I 7 9)), (7, some 11, fun _ => (I 7 11)), (7, some 12, fun _ => (I 7 12)), (13, some 2, fun _ => (I 13 2)), (16, some 2, fun _ => (I 16 2))]) hc rfl rfl rfl sh_7 rfl zft_3_1 rfl (fun h => Bool.noConfusion h) rfl rfl rfl ?_
  refine g_aload_n (pc' := 11)  hc rfl rfl rfl rfl ?_
  refine g_lconst (pc' := 12) (v := (0 : Int64)) hc rfl zkl_0 rfl ?_
  refine z_putJ (pc' := 15) (K' := [(7, some 2, fun _ => (0 : Int64))]) hc rfl rfl rfl sh_7 rfl zft_3_2 (fun h => Bool.noConfusion h) rfl rfl rfl ?_
  refine g_aload_n (pc' := 16)  hc rfl rfl rfl rfl ?_
  refine g_iconst (pc' := 17) (v := (0 : Int32)) hc rfl zki_0 rfl ?_
  refine z_putI (pc' := 20) (L' := [(7, some 0, fun _ => (5 : Int32)), (7, some 1, fun _ => (4 : Int32)), (7, some 3, fun _ => (0 : Int32)), (7, some 7, fun _ => (I 7 7)), (7, some 9, fun _ => (I 7 9)), (7, some 11, fun _ => (I 7 11)), (7, some 12, fun _ => (I 7 12)), (13, some 2, fun _ => (I 13 2)), (16, some 2, fun _ => (I 16 2))]) hc rfl rfl rfl sh_7 rfl zft_3_3 rfl (fun h => Bool.noConfusion h) rfl rfl rfl ?_
  refine g_aload_n (pc' := 21)  hc rfl rfl rfl rfl ?_
  refine g_iconst (pc' := 22) (v := (0 : Int32)) hc rfl zki_0 rfl ?_
  refine z_putI (pc' := 25) (L' := [(7, some 0, fun _ => (5 : Int32)), (7, some 1, fun _ => (4 : Int32)), (7, some 3, fun _ => (0 : Int32)), (7, some 7, fun _ => (0 : Int32)), (7, some 9, fun _ => (I 7 9)), (7, some 11, fun _ => (I 7 11)), (7, some 12, fun _ => (I 7 12)), (13, some 2, fun _ => (I 13 2)), (16, some 2, fun _ => (I 16 2))]) hc rfl rfl rfl sh_7 rfl zft_3_7 rfl (fun h => Bool.noConfusion h) rfl rfl rfl ?_
  refine g_aload_n (pc' := 26)  hc rfl rfl rfl rfl ?_
  refine g_iconst (pc' := 27) (v := (0 : Int32)) hc rfl zki_0 rfl ?_
  refine z_putI (pc' := 30) (L' := [(7, some 0, fun _ => (5 : Int32)), (7, some 1, fun _ => (4 : Int32)), (7, some 3, fun _ => (0 : Int32)), (7, some 7, fun _ => (0 : Int32)), (7, some 9, fun _ => (0 : Int32)), (7, some 11, fun _ => (I 7 11)), (7, some 12, fun _ => (I 7 12)), (13, some 2, fun _ => (I 13 2)), (16, some 2, fun _ => (I 16 2))]) hc rfl rfl rfl sh_7 rfl zft_3_9 rfl (fun h => Bool.noConfusion h) rfl rfl rfl ?_
  refine g_aload_n (pc' := 31)  hc rfl rfl rfl rfl ?_
  refine g_iconst (pc' := 32) (v := (0 : Int32)) hc rfl zki_0 rfl ?_
  refine z_putI (pc' := 35) (L' := [(7, some 0, fun _ => (5 : Int32)), (7, some 1, fun _ => (4 : Int32)), (7, some 3, fun _ => (0 : Int32)), (7, some 7, fun _ => (0 : Int32)), (7, some 9, fun _ => (0 : Int32)), (7, some 11, fun _ => (0 : Int32)), (7, some 12, fun _ => (I 7 12)), (13, some 2, fun _ => (I 13 2)), (16, some 2, fun _ => (I 16 2))]) hc rfl rfl rfl sh_7 rfl zft_3_11 rfl (fun h => Bool.noConfusion h) rfl rfl rfl ?_
  refine g_aload_n (pc' := 36)  hc rfl rfl rfl rfl ?_
  refine g_iconst (pc' := 37) (v := (3 : Int32)) hc rfl zki_3 rfl ?_
  refine z_putI (pc' := 40) (L' := [(7, some 0, fun _ => (5 : Int32)), (7, some 1, fun _ => (4 : Int32)), (7, some 3, fun _ => (0 : Int32)), (7, some 7, fun _ => (0 : Int32)), (7, some 9, fun _ => (0 : Int32)), (7, some 11, fun _ => (0 : Int32)), (7, some 12, fun _ => (3 : Int32)), (13, some 2, fun _ => (I 13 2)), (16, some 2, fun _ => (I 16 2))]) hc rfl rfl rfl sh_7 rfl zft_3_12 rfl (fun h => Bool.noConfusion h) rfl rfl rfl ?_
  refine g_aload_n (pc' := 41)  hc rfl rfl rfl rfl ?_
  refine z_getR (pc' := 44)  hc rfl rfl rfl sh_7 rfl rfl ?_
  refine z_virt (as := []) (a := 13) (r := []) hc rfl rfl rfl rfl sh_13 rfl zco_42 rfl rfl rfl ?_
  refine ok_X5_clear_13 (zdp hd rfl) (zwp_mono (zwp_bind h) ?_)
  rintro o1 h
  refine z_po (pc' := 47) (st' := []) (v := none) (L' := [(7, some 0, fun _ => (5 : Int32)), (7, some 1, fun _ => (4 : Int32)), (7, some 3, fun _ => (0 : Int32)), (7, some 7, fun _ => (0 : Int32)), (7, some 9, fun _ => (0 : Int32)), (7, some 11, fun _ => (0 : Int32)), (7, some 12, fun _ => (3 : Int32)), (13, some 2, fun _ => o1), (16, some 2, fun _ => (I 16 2))]) (K' := [(7, some 2, fun _ => (0 : Int64))]) zco_42 rfl rfl rfl rfl rfl rfl rfl rfl ?_
  refine g_aload_n (pc' := 48)  hc rfl rfl rfl rfl ?_
  refine z_getR (pc' := 51)  hc rfl rfl rfl sh_7 rfl rfl ?_
  refine z_virt (as := []) (a := 16) (r := []) hc rfl rfl rfl rfl sh_16 rfl zco_42 rfl rfl rfl ?_
  refine ok_X5_clear_16 (zdp hd rfl) (zwp_mono (zwp_bind h) ?_)
  rintro o2 h
  refine z_po (pc' := 54) (st' := []) (v := none) (L' := [(7, some 0, fun _ => (5 : Int32)), (7, some 1, fun _ => (4 : Int32)), (7, some 3, fun _ => (0 : Int32)), (7, some 7, fun _ => (0 : Int32)), (7, some 9, fun _ => (0 : Int32)), (7, some 11, fun _ => (0 : Int32)), (7, some 12, fun _ => (3 : Int32)), (13, some 2, fun _ => o1), (16, some 2, fun _ => o2)]) (K' := [(7, some 2, fun _ => (0 : Int64))]) zco_42 rfl rfl rfl rfl rfl rfl rfl rfl ?_
  replace h := zws h
  exact g_return hc rfl rfl (fun _ => ⟨rfl, rfl⟩) h
set_option maxRecDepth 4000 in
theorem ok_X4_readTable_3_1_7 {p q : Nat} {I : pI} {J : pJ} {Q : pQ} {d : Nat} (hd : 9 ≤ d) (h : zwp (f_X4_readTable (I 7 1) (I 7 0) (I 2) (I 1 4) (I 1 5) (I 1 2) (I 1 6) (I 1 3)) (fun w => match w with | (r, o0, o1, o2, o3, o4, o5) => Q (.inl (some (.int r))) (zS p q I [(1, some 3, fun _ => o5), (1, some 4, fun _ => o2), (1, some 5, fun _ => o3), (1, some 6, fun _ => o4), (7, some 0, fun _ => o1), (7, some 1, fun _ => o0)] J []))) : pm_call M cost zext d 31 [.ref 3, .ref 1, .ref 7] (pm_st 108 (shp p q) I J) Q := by
  obtain ⟨d, rfl⟩ := zd1 hd rfl
  have hc := pm_call_m (M := M) (cost := cost) zext_m d
  refine z_in (L := [(1, some 3, fun _ => (I 1 3)), (1, some 4, fun _ => (I 1 4)), (1, some 5, fun _ => (I 1 5)), (1, some 6, fun _ => (I 1 6)), (7, some 0, fun _ => (I 7 0)), (7, some 1, fun _ => (I 7 1))]) (K := []) (ls := [some (.ref 3), some (.ref 1), some (.ref 7), none]) zmt_31 zco_31 rfl rfl (zid_s (zid_s (zid_s (zid_s (zid_s (zid_s zid_n)))))) zid_n ?_
  delta f_X4_readTable at h
  refine g_aload_n (pc' := 1)  hc rfl rfl rfl rfl ?_
  refine z_virt (as := []) (a := 1) (r := []) hc rfl rfl rfl rfl sh_1 rfl zco_83 rfl rfl rfl ?_
  refine ok_X9_advance_1 (zdp hd rfl) (zwp_mono (zwp_bind h) ?_)
  rintro ⟨o1, o2, o3, o4⟩ h
  refine z_po (pc' := 4) (st' := []) (v := none) (L' := [(1, some 3, fun _ => o4), (1, some 4, fun _ => o1), (1, some 5, fun _ => o2), (1, some 6, fun _ => o3), (7, some 0, fun _ => (I 7 0)), (7, some 1, fun _ => (I 7 1))]) (K' := []) zco_83 rfl rfl rfl rfl rfl rfl rfl rfl ?_
  refine g_aload_n (pc' := 5)  hc rfl rfl rfl rfl ?_
  refine g_iconst (pc' := 6) (v := (2 : Int32)) hc rfl zki_2 rfl ?_
  refine g_bipush (pc' := 8) (v := (6 : Int32)) hc rfl zkb_6 rfl ?_
  refine z_virt (as := [.int (2 : Int32), .int (6 : Int32)]) (a := 1) (r := []) hc rfl rfl rfl rfl sh_1 rfl zco_87 rfl rfl rfl ?_
  refine ok_X9_numberFault_1 (zdp hd rfl) (zwp_mono (zwp_bind h) ?_)
  rintro r5 h
  refine z_po (pc' := 11) (st' := [.int r5]) (v := (some (.int r5))) (L' := [(1, some 3, fun _ => o4), (1, some 4, fun _ => o1), (1, some 5, fun _ => o2), (1, some 6, fun _ => o3), (7, some 0, fun _ => (I 7 0)), (7, some 1, fun _ => (I 7 1))]) (K' := []) zco_87 rfl rfl rfl rfl rfl rfl rfl rfl ?_
  refine g_istore_n (pc' := 12) (ls1 := [some (.ref 3), some (.ref 1), some (.ref 7), some (.int r5)]) hc rfl (zlt rfl) rfl rfl ?_
  refine g_iload_n (pc' := 13)  hc rfl rfl rfl ?_
  refine g_if_eq (pc' := 16) hc rfl rfl (fun hx => ?_) (fun hx => ?_)
  · replace h := zwp_t h hx
    refine g_aload_n (pc' := 19)  hc rfl rfl rfl rfl ?_
    refine g_aload_n (pc' := 20)  hc rfl rfl rfl rfl ?_
    refine z_getI (pc' := 23) (v := o3) hc rfl rfl rfl sh_1 rfl rfl rfl ?_
    refine z_putI (pc' := 26) (L' := [(1, some 3, fun _ => o4), (1, some 4, fun _ => o1), (1, some 5, fun _ => o2), (1, some 6, fun _ => o3), (7, some 0, fun _ => o3), (7, some 1, fun _ => (I 7 1))]) hc rfl rfl rfl sh_7 rfl zft_3_0 rfl (fun h => Bool.noConfusion h) rfl rfl rfl ?_
    refine g_aload_n (pc' := 27)  hc rfl rfl rfl rfl ?_
    refine z_virt (as := []) (a := 1) (r := []) hc rfl rfl rfl rfl sh_1 rfl zco_83 rfl rfl rfl ?_
    refine ok_X9_advance_1 (zdp hd rfl) (zwp_mono (zwp_bind h) ?_)
    rintro ⟨o6, o7, o8, o9⟩ h
    refine z_po (pc' := 30) (st' := []) (v := none) (L' := [(1, some 3, fun _ => o9), (1, some 4, fun _ => o6), (1, some 5, fun _ => o7), (1, some 6, fun _ => o8), (7, some 0, fun _ => o3), (7, some 1, fun _ => (I 7 1))]) (K' := []) zco_83 rfl rfl rfl rfl rfl rfl rfl rfl ?_
    refine g_aload_n (pc' := 31)  hc rfl rfl rfl rfl ?_
    refine g_iconst (pc' := 32) (v := (2 : Int32)) hc rfl zki_2 rfl ?_
    refine g_bipush (pc' := 34) (v := (6 : Int32)) hc rfl zkb_6 rfl ?_
    refine z_virt (as := [.int (2 : Int32), .int (6 : Int32)]) (a := 1) (r := []) hc rfl rfl rfl rfl sh_1 rfl zco_87 rfl rfl rfl ?_
    refine ok_X9_numberFault_1 (zdp hd rfl) (zwp_mono (zwp_bind h) ?_)
    rintro r10 h
    refine z_po (pc' := 37) (st' := [.int r10]) (v := (some (.int r10))) (L' := [(1, some 3, fun _ => o9), (1, some 4, fun _ => o6), (1, some 5, fun _ => o7), (1, some 6, fun _ => o8), (7, some 0, fun _ => o3), (7, some 1, fun _ => (I 7 1))]) (K' := []) zco_87 rfl rfl rfl rfl rfl rfl rfl rfl ?_
    refine g_istore_n (pc' := 38) (ls1 := [some (.ref 3), some (.ref 1), some (.ref 7), some (.int r10)]) hc rfl (zlt rfl) rfl rfl ?_
    refine g_iload_n (pc' := 39)  hc rfl rfl rfl ?_
    refine g_if_eq (pc' := 42) hc rfl rfl (fun hx => ?_) (fun hx => ?_)
    · replace h := zwp_t h hx
      refine g_aload_n (pc' := 45)  hc rfl rfl rfl rfl ?_
      refine g_aload_n (pc' := 46)  hc rfl rfl rfl rfl ?_
      refine z_getI (pc' := 49) (v := o8) hc rfl rfl rfl sh_1 rfl rfl rfl ?_
      refine z_putI (pc' := 52) (L' := [(1, some 3, fun _ => o9), (1, some 4, fun _ => o6), (1, some 5, fun _ => o7), (1, some 6, fun _ => o8), (7, some 0, fun _ => o3), (7, some 1, fun _ => o8)]) hc rfl rfl rfl sh_7 rfl zft_3_1 rfl (fun h => Bool.noConfusion h) rfl rfl rfl ?_
      refine g_aload_n (pc' := 53)  hc rfl rfl rfl rfl ?_
      refine z_virt (as := []) (a := 1) (r := []) hc rfl rfl rfl rfl sh_1 rfl zco_83 rfl rfl rfl ?_
      refine ok_X9_advance_1 (zdp hd rfl) (zwp_mono (zwp_bind h) ?_)
      rintro ⟨o11, o12, o13, o14⟩ h
      refine z_po (pc' := 56) (st' := []) (v := none) (L' := [(1, some 3, fun _ => o14), (1, some 4, fun _ => o11), (1, some 5, fun _ => o12), (1, some 6, fun _ => o13), (7, some 0, fun _ => o3), (7, some 1, fun _ => o8)]) (K' := []) zco_83 rfl rfl rfl rfl rfl rfl rfl rfl ?_
      refine g_aload_n (pc' := 57)  hc rfl rfl rfl rfl ?_
      refine z_stat (as := [.ref 1]) (r := []) hc rfl rfl rfl rfl zco_32 rfl rfl rfl ?_
      refine ok_X4_readStop_1 (zdp hd rfl) (zwp_mono (zwp_bind h) ?_)
      rintro ⟨r19, o15, o16, o17, o18⟩ h
      refine z_po (pc' := 60) (st' := [.int r19]) (v := (some (.int r19))) (L' := [(1, some 3, fun _ => o18), (1, some 4, fun _ => o15), (1, some 5, fun _ => o16), (1, some 6, fun _ => o17), (7, some 0, fun _ => o3), (7, some 1, fun _ => o8)]) (K' := []) zco_32 rfl rfl rfl rfl rfl rfl rfl rfl ?_
      replace h := zws h
      exact g_ireturn hc rfl rfl rfl (fun _ => ⟨rfl, rfl⟩) h
    · replace h := zwp_f h hx
      refine g_iload_n (pc' := 43)  hc rfl rfl rfl ?_
      replace h := zws h
      exact g_ireturn hc rfl rfl rfl (fun _ => ⟨rfl, rfl⟩) h
  · replace h := zwp_f h hx
    refine g_iload_n (pc' := 17)  hc rfl rfl rfl ?_
    replace h := zws h
    exact g_ireturn hc rfl rfl rfl (fun _ => ⟨rfl, rfl⟩) h
set_option maxRecDepth 4000 in
theorem ok_X3_isWall_7 {p q : Nat} {I : pI} {J : pJ} {a1 : Int32} {Q : pQ} {d : Nat} (hd : 1 ≤ d) (h : zwp (f_X3_isWall a1 (J 7 2)) (fun r => Q (.inl (some (.int r))) (zS p q I [] J []))) : pm_call M cost zext d 26 [.ref 7, .int a1] (pm_st 108 (shp p q) I J) Q := by
  obtain ⟨d, rfl⟩ := zd1 hd rfl
  have hc := pm_call_m (M := M) (cost := cost) zext_m d
  refine z_in (L := []) (K := []) (ls := [some (.ref 7), some (.int a1)]) zmt_26 zco_26 rfl rfl zid_n zid_n ?_
  delta f_X3_isWall at h
  refine g_aload_n (pc' := 1)  hc rfl rfl rfl rfl ?_
  refine z_getJ (pc' := 4) (v := (J 7 2)) hc rfl rfl rfl sh_7 rfl rfl rfl ?_
  refine g_iload_n (pc' := 5)  hc rfl rfl rfl ?_
  refine g_lushr (pc' := 6)  hc rfl rfl ?_
  refine g_lconst (pc' := 7) (v := (1 : Int64)) hc rfl zkl_1 rfl ?_
  refine g_land (pc' := 8)  hc rfl rfl ?_
  refine g_lconst (pc' := 9) (v := (0 : Int64)) hc rfl zkl_0 rfl ?_
  refine g_lcmp (pc' := 10)  hc rfl rfl ?_
  refine g_if_eq (pc' := 13) hc rfl rfl (fun hx => ?_) (fun hx => ?_)
  · replace h := zwp_t h hx
    refine g_iconst (pc' := 18) (v := (0 : Int32)) hc rfl zki_0 rfl ?_
    replace h := zws h
    exact g_ireturn hc rfl rfl rfl (fun _ => ⟨rfl, rfl⟩) h
  · replace h := zwp_f h hx
    refine g_iconst (pc' := 14) (v := (1 : Int32)) hc rfl zki_1 rfl ?_
    refine g_goto hc rfl ?_
    replace h := zws h
    exact g_ireturn hc rfl rfl rfl (fun _ => ⟨rfl, rfl⟩) h
set_option maxRecDepth 4000 in
theorem ok_X4_cellFault_1_7 {p q : Nat} {I : pI} {J : pJ} {Q : pQ} {d : Nat} (hd : 2 ≤ d) (h : zwp (f_X4_cellFault (I 7 1) (J 7 2) (I 7 0) (I 1 4) (I 1 5) (I 1 6) (I 1 3)) (fun r => Q (.inl (some (.int r))) (zS p q I [] J []))) : pm_call M cost zext d 34 [.ref 1, .ref 7] (pm_st 108 (shp p q) I J) Q := by
  obtain ⟨d, rfl⟩ := zd1 hd rfl
  have hc := pm_call_m (M := M) (cost := cost) zext_m d
  refine z_in (L := []) (K := []) (ls := [some (.ref 1), some (.ref 7), none]) zmt_34 zco_34 rfl rfl zid_n zid_n ?_
  delta f_X4_cellFault at h
  refine g_aload_n (pc' := 1)  hc rfl rfl rfl rfl ?_
  refine g_iconst (pc' := 2) (v := (0 : Int32)) hc rfl zki_0 rfl ?_
  refine g_sipush (pc' := 5) (v := (9999 : Int32)) hc rfl zks_9999 rfl ?_
  refine z_virt (as := [.int (0 : Int32), .int (9999 : Int32)]) (a := 1) (r := []) hc rfl rfl rfl rfl sh_1 rfl zco_87 rfl rfl rfl ?_
  refine ok_X9_numberFault_1 (zdp hd rfl) (zwp_mono (zwp_bind h) ?_)
  rintro r1 h
  refine z_po (pc' := 8) (st' := [.int r1]) (v := (some (.int r1))) (L' := []) (K' := []) zco_87 rfl rfl rfl rfl rfl rfl rfl rfl ?_
  refine g_istore_n (pc' := 9) (ls1 := [some (.ref 1), some (.ref 7), some (.int r1)]) hc rfl (zlt rfl) rfl rfl ?_
  refine g_iload_n (pc' := 10)  hc rfl rfl rfl ?_
  refine g_if_eq (pc' := 13) hc rfl rfl (fun hx => ?_) (fun hx => ?_)
  · replace h := zwp_t h hx
    refine g_aload_n (pc' := 16)  hc rfl rfl rfl rfl ?_
    refine z_getI (pc' := 19) (v := (I 1 6)) hc rfl rfl rfl sh_1 rfl rfl rfl ?_
    refine g_aload_n (pc' := 20)  hc rfl rfl rfl rfl ?_
    refine z_virt (as := []) (a := 7) (r := [.int (I 1 6)]) hc rfl rfl rfl rfl sh_7 rfl zco_21 rfl rfl rfl ?_
    refine ok_X3_cells_7 (zdp hd rfl) (zwp_mono (zwp_bind h) ?_)
    rintro r2 h
    refine z_po (pc' := 23) (st' := [.int r2, .int (I 1 6)]) (v := (some (.int r2))) (L' := []) (K' := []) zco_21 rfl rfl rfl rfl rfl rfl rfl rfl ?_
    refine g_icmp_lt (pc' := 26) hc rfl rfl (fun hx => ?_) (fun hx => ?_)
    · replace h := zwp_t h hx
      refine g_aload_n (pc' := 29)  hc rfl rfl rfl rfl ?_
      refine g_aload_n (pc' := 30)  hc rfl rfl rfl rfl ?_
      refine z_getI (pc' := 33) (v := (I 1 6)) hc rfl rfl rfl sh_1 rfl rfl rfl ?_
      refine z_virt (as := [.int (I 1 6)]) (a := 7) (r := []) hc rfl rfl rfl rfl sh_7 rfl zco_26 rfl rfl rfl ?_
      refine ok_X3_isWall_7 (zdp hd rfl) (zwp_mono (zwp_bind h) ?_)
      rintro r3 h
      refine z_po (pc' := 36) (st' := [.int r3]) (v := (some (.int r3))) (L' := []) (K' := []) zco_26 rfl rfl rfl rfl rfl rfl rfl rfl ?_
      refine g_if_eq (pc' := 39) hc rfl rfl (fun hx => ?_) (fun hx => ?_)
      · replace h := zwp_t h hx
        refine g_iconst (pc' := 44) (v := (0 : Int32)) hc rfl zki_0 rfl ?_
        replace h := zws h
        exact g_ireturn hc rfl rfl rfl (fun _ => ⟨rfl, rfl⟩) h
      · replace h := zwp_f h hx
        refine g_iconst (pc' := 40) (v := (4 : Int32)) hc rfl zki_4 rfl ?_
        refine g_goto hc rfl ?_
        replace h := zws h
        exact g_ireturn hc rfl rfl rfl (fun _ => ⟨rfl, rfl⟩) h
    · replace h := zwp_f h hx
      refine g_iconst (pc' := 27) (v := (3 : Int32)) hc rfl zki_3 rfl ?_
      replace h := zws h
      exact g_ireturn hc rfl rfl rfl (fun _ => ⟨rfl, rfl⟩) h
  · replace h := zwp_f h hx
    refine g_iload_n (pc' := 14)  hc rfl rfl rfl ?_
    replace h := zws h
    exact g_ireturn hc rfl rfl rfl (fun _ => ⟨rfl, rfl⟩) h
set_option maxRecDepth 4000 in
theorem ok_X3_isStart_7 {p q : Nat} {I : pI} {J : pJ} {a1 : Int32} {Q : pQ} {d : Nat} (hd : 1 ≤ d) (h : zwp (f_X3_isStart a1 (I 7 3) (I 8)) (fun r => Q (.inl (some (.int r))) (zS p q I [] J []))) : pm_call M cost zext d 27 [.ref 7, .int a1] (pm_st 108 (shp p q) I J) Q := by
  obtain ⟨d, rfl⟩ := zd1 hd rfl
  have hc := pm_call_m (M := M) (cost := cost) zext_m d
  refine z_in (L := []) (K := []) (ls := [some (.ref 7), some (.int a1), none]) zmt_27 zco_27 rfl rfl zid_n zid_n ?_
  delta f_X3_isStart at h
  refine g_iconst (pc' := 1) (v := (0 : Int32)) hc rfl zki_0 rfl ?_
  refine g_istore_n (pc' := 2) (ls1 := [some (.ref 7), some (.int a1), some (.int (0 : Int32))]) hc rfl (zlt rfl) rfl rfl ?_
  refine zjs (G := (fun (_ : Unit) => ∀ z2 : Option Value, znl z2 = true → pm_ev C_X3_isStart (d + 1) (pm_call M cost zext d) cost (false, false) 108 0 0 Q 28 [some (.ref 7), some (.int a1), z2] [] 0 0 (zS p q I [] J []))) h ?_ (fun h => ?_)
  · rintro _ h z2 hz2
    refine g_iconst (pc' := 29) (v := (0 : Int32)) hc rfl zki_0 rfl ?_
    replace h := zws h
    exact g_ireturn hc rfl rfl rfl (fun _ => ⟨rfl, rfl⟩) h
  refine zitr_ev (G := (fun (x1 : Int32) => pm_ev C_X3_isStart (d + 1) (pm_call M cost zext d) cost (false, false) 108 0 0 Q 2 [some (.ref 7), some (.int a1), some (.int x1)] [] 0 0 (zS p q I [] J []))) ?_ zFU (0 : Int32) h
  rintro x1 h
  refine g_iload_n (pc' := 3)  hc rfl rfl rfl ?_
  refine g_aload_n (pc' := 4)  hc rfl rfl rfl rfl ?_
  refine z_getI (pc' := 7) (v := (I 7 3)) hc rfl rfl rfl sh_7 rfl rfl rfl ?_
  refine g_icmp_ge (pc' := 10) hc rfl rfl (fun hx => ?_) (fun hx => ?_)
  · replace h := zwp_t h hx
    replace h := zwp_r h
    exact h (some (.int x1)) rfl
  · replace h := zwp_f h hx
    refine g_aload_n (pc' := 11)  hc rfl rfl rfl rfl ?_
    refine z_getR (pc' := 14)  hc rfl rfl rfl sh_7 rfl rfl ?_
    refine g_iload_n (pc' := 15)  hc rfl rfl rfl ?_
    have hb := (zwp_bnd h).1
    replace h := (zwp_bnd h).2
    refine z_iaload (pc' := 16) (v := (((I 8)) x1.toNatClampNeg)) hc rfl rfl sh_8 hb rfl rfl ?_
    refine g_iload_n (pc' := 17)  hc rfl rfl rfl ?_
    refine g_icmp_ne (pc' := 20) hc rfl rfl (fun hx => ?_) (fun hx => ?_)
    · replace h := zwp_f h hx
      refine g_iinc (pc' := 25) (ls1 := [some (.ref 7), some (.int a1), some (.int (x1 + (1 : Int32)))]) hc rfl rfl zki_1 (zlt rfl) rfl rfl ?_
      refine g_goto hc rfl ?_
      replace h := zwp_l h
      exact h
    · replace h := zwp_t h hx
      refine g_iconst (pc' := 21) (v := (1 : Int32)) hc rfl zki_1 rfl ?_
      replace h := zws h
      exact g_ireturn hc rfl rfl rfl (fun _ => ⟨rfl, rfl⟩) h
set_option maxRecDepth 4000 in
theorem ok_X4_readWall_1_7 {p q : Nat} {I : pI} {J : pJ} {Q : pQ} {d : Nat} (hd : 8 ≤ d) (h : zwp (f_X4_readWall (I 7 3) (I 7 1) (I 11) (I 7 7) (I 8) (J 7 2) (I 7 0) (I 2) (I 1 4) (I 1 5) (I 1 2) (I 1 6) (I 1 3)) (fun w => match w with | (r, o0, o1, o2, o3, o4) => Q (.inl (some (.int r))) (zS p q I [(1, some 3, fun _ => o4), (1, some 4, fun _ => o1), (1, some 5, fun _ => o2), (1, some 6, fun _ => o3)] J [(7, some 2, fun _ => o0)]))) : pm_call M cost zext d 35 [.ref 1, .ref 7] (pm_st 108 (shp p q) I J) Q := by
  obtain ⟨d, rfl⟩ := zd1 hd rfl
  have hc := pm_call_m (M := M) (cost := cost) zext_m d
  refine z_in (L := [(1, some 3, fun _ => (I 1 3)), (1, some 4, fun _ => (I 1 4)), (1, some 5, fun _ => (I 1 5)), (1, some 6, fun _ => (I 1 6))]) (K := [(7, some 2, fun _ => (J 7 2))]) (ls := [some (.ref 1), some (.ref 7), none]) zmt_35 zco_35 rfl rfl (zid_s (zid_s (zid_s (zid_s zid_n)))) (zid_s zid_n) ?_
  delta f_X4_readWall at h
  refine g_aload_n (pc' := 1)  hc rfl rfl rfl rfl ?_
  refine z_virt (as := []) (a := 1) (r := []) hc rfl rfl rfl rfl sh_1 rfl zco_83 rfl rfl rfl ?_
  refine ok_X9_advance_1 (zdp hd rfl) (zwp_mono (zwp_bind h) ?_)
  rintro ⟨o1, o2, o3, o4⟩ h
  refine z_po (pc' := 4) (st' := []) (v := none) (L' := [(1, some 3, fun _ => o4), (1, some 4, fun _ => o1), (1, some 5, fun _ => o2), (1, some 6, fun _ => o3)]) (K' := [(7, some 2, fun _ => (J 7 2))]) zco_83 rfl rfl rfl rfl rfl rfl rfl rfl ?_
  refine g_aload_n (pc' := 5)  hc rfl rfl rfl rfl ?_
  refine g_aload_n (pc' := 6)  hc rfl rfl rfl rfl ?_
  refine z_stat (as := [.ref 1, .ref 7]) (r := []) hc rfl rfl rfl rfl zco_34 rfl rfl rfl ?_
  refine ok_X4_cellFault_1_7 (zdp hd rfl) (zwp_mono (zwp_bind h) ?_)
  rintro r5 h
  refine z_po (pc' := 9) (st' := [.int r5]) (v := (some (.int r5))) (L' := [(1, some 3, fun _ => o4), (1, some 4, fun _ => o1), (1, some 5, fun _ => o2), (1, some 6, fun _ => o3)]) (K' := [(7, some 2, fun _ => (J 7 2))]) zco_34 rfl rfl rfl rfl rfl rfl rfl rfl ?_
  refine g_istore_n (pc' := 10) (ls1 := [some (.ref 1), some (.ref 7), some (.int r5)]) hc rfl (zlt rfl) rfl rfl ?_
  refine g_iload_n (pc' := 11)  hc rfl rfl rfl ?_
  refine g_if_eq (pc' := 14) hc rfl rfl (fun hx => ?_) (fun hx => ?_)
  · replace h := zwp_t h hx
    refine g_aload_n (pc' := 17)  hc rfl rfl rfl rfl ?_
    refine g_aload_n (pc' := 18)  hc rfl rfl rfl rfl ?_
    refine z_getI (pc' := 21) (v := o3) hc rfl rfl rfl sh_1 rfl rfl rfl ?_
    refine z_virt (as := [.int o3]) (a := 7) (r := []) hc rfl rfl rfl rfl sh_7 rfl zco_27 rfl rfl rfl ?_
    refine ok_X3_isStart_7 (zdp hd rfl) (zwp_mono (zwp_bind h) ?_)
    rintro r6 h
    refine z_po (pc' := 24) (st' := [.int r6]) (v := (some (.int r6))) (L' := [(1, some 3, fun _ => o4), (1, some 4, fun _ => o1), (1, some 5, fun _ => o2), (1, some 6, fun _ => o3)]) (K' := [(7, some 2, fun _ => (J 7 2))]) zco_27 rfl rfl rfl rfl rfl rfl rfl rfl ?_
    refine g_if_ne (pc' := 27) hc rfl rfl (fun hx => ?_) (fun hx => ?_)
    · replace h := zwp_f h hx
      refine g_iconst (pc' := 39) (v := (4 : Int32)) hc rfl zki_4 rfl ?_
      replace h := zws h
      exact g_ireturn hc rfl rfl rfl (fun _ => ⟨rfl, rfl⟩) h
    · replace h := zwp_t h hx
      refine g_aload_n (pc' := 28)  hc rfl rfl rfl rfl ?_
      refine g_aload_n (pc' := 29)  hc rfl rfl rfl rfl ?_
      refine z_getI (pc' := 32) (v := o3) hc rfl rfl rfl sh_1 rfl rfl rfl ?_
      refine z_virt (as := [.int o3]) (a := 7) (r := []) hc rfl rfl rfl rfl sh_7 rfl zco_25 rfl rfl rfl ?_
      refine ok_X3_seatsAt_7 (zdp hd rfl) (zwp_mono (zwp_bind h) ?_)
      rintro r7 h
      refine z_po (pc' := 35) (st' := [.int r7]) (v := (some (.int r7))) (L' := [(1, some 3, fun _ => o4), (1, some 4, fun _ => o1), (1, some 5, fun _ => o2), (1, some 6, fun _ => o3)]) (K' := [(7, some 2, fun _ => (J 7 2))]) zco_25 rfl rfl rfl rfl rfl rfl rfl rfl ?_
      refine g_if_eq (pc' := 38) hc rfl rfl (fun hx => ?_) (fun hx => ?_)
      · replace h := zwp_t h hx
        refine g_aload_n (pc' := 41)  hc rfl rfl rfl rfl ?_
        refine g_aload_n (pc' := 42)  hc rfl rfl rfl rfl ?_
        refine z_getJ (pc' := 45) (v := (J 7 2)) hc rfl rfl rfl sh_7 rfl rfl rfl ?_
        refine g_lconst (pc' := 46) (v := (1 : Int64)) hc rfl zkl_1 rfl ?_
        refine g_aload_n (pc' := 47)  hc rfl rfl rfl rfl ?_
        refine z_getI (pc' := 50) (v := o3) hc rfl rfl rfl sh_1 rfl rfl rfl ?_
        refine g_lshl (pc' := 51)  hc rfl rfl ?_
        refine g_lor (pc' := 52)  hc rfl rfl ?_
        refine z_putJ (pc' := 55) (K' := [(7, some 2, fun _ => (((J 7 2)) ||| ((1 : Int64) <<< (o3.toInt64 &&& 63))))]) hc rfl rfl rfl sh_7 rfl zft_3_2 (fun h => Bool.noConfusion h) rfl rfl rfl ?_
        refine g_aload_n (pc' := 56)  hc rfl rfl rfl rfl ?_
        refine z_virt (as := []) (a := 1) (r := []) hc rfl rfl rfl rfl sh_1 rfl zco_83 rfl rfl rfl ?_
        refine ok_X9_advance_1 (zdp hd rfl) (zwp_mono (zwp_bind h) ?_)
        rintro ⟨o8, o9, o10, o11⟩ h
        refine z_po (pc' := 59) (st' := []) (v := none) (L' := [(1, some 3, fun _ => o11), (1, some 4, fun _ => o8), (1, some 5, fun _ => o9), (1, some 6, fun _ => o10)]) (K' := [(7, some 2, fun _ => (((J 7 2)) ||| ((1 : Int64) <<< (o3.toInt64 &&& 63))))]) zco_83 rfl rfl rfl rfl rfl rfl rfl rfl ?_
        refine g_iconst (pc' := 60) (v := (0 : Int32)) hc rfl zki_0 rfl ?_
        replace h := zws h
        exact g_ireturn hc rfl rfl rfl (fun _ => ⟨rfl, rfl⟩) h
      · replace h := zwp_f h hx
        refine g_iconst (pc' := 39) (v := (4 : Int32)) hc rfl zki_4 rfl ?_
        replace h := zws h
        exact g_ireturn hc rfl rfl rfl (fun _ => ⟨rfl, rfl⟩) h
  · replace h := zwp_f h hx
    refine g_iload_n (pc' := 15)  hc rfl rfl rfl ?_
    replace h := zws h
    exact g_ireturn hc rfl rfl rfl (fun _ => ⟨rfl, rfl⟩) h
set_option maxRecDepth 4000 in
theorem ok_X4_readRow_3_1_10 {p q : Nat} {I : pI} {J : pJ} {a3 : Int32} {a4 : Int32} {Q : pQ} {d : Nat} (hd : 8 ≤ d) (h : zwp (f_X4_readRow a3 a4 64 (I 10) (I 3 1) (I 2) (I 1 4) (I 1 5) (I 1 2) (I 1 6) (I 1 3)) (fun w => match w with | (r, o0, o1, o2, o3, o4, o5) => Q (.inl (some (.int r))) (zS p q I [(1, some 3, fun _ => o5), (1, some 4, fun _ => o2), (1, some 5, fun _ => o3), (1, some 6, fun _ => o4), (3, some 1, fun _ => o1), (10, none, o0)] J []))) : pm_call M cost zext d 39 [.ref 3, .ref 1, .ref 10, .int a3, .int a4] (pm_st 108 (shp p q) I J) Q := by
  obtain ⟨d, rfl⟩ := zd1 hd rfl
  have hc := pm_call_m (M := M) (cost := cost) zext_m d
  refine z_in (L := [(1, some 3, fun _ => (I 1 3)), (1, some 4, fun _ => (I 1 4)), (1, some 5, fun _ => (I 1 5)), (1, some 6, fun _ => (I 1 6)), (3, some 1, fun _ => (I 3 1)), (10, none, (I 10))]) (K := []) (ls := [some (.ref 3), some (.ref 1), some (.ref 10), some (.int a3), some (.int a4), none]) zmt_39 zco_39 rfl rfl (zid_s (zid_s (zid_s (zid_s (zid_s (zid_a zid_n)))))) zid_n ?_
  delta f_X4_readRow at h
  refine g_aload_n (pc' := 1)  hc rfl rfl rfl rfl ?_
  refine g_iconst (pc' := 2) (v := (0 : Int32)) hc rfl zki_0 rfl ?_
  refine z_putI (pc' := 5) (L' := [(1, some 3, fun _ => (I 1 3)), (1, some 4, fun _ => (I 1 4)), (1, some 5, fun _ => (I 1 5)), (1, some 6, fun _ => (I 1 6)), (3, some 1, fun _ => (0 : Int32)), (10, none, (I 10))]) hc rfl rfl rfl sh_3 rfl zft_4_1 rfl (fun h => Bool.noConfusion h) rfl rfl rfl ?_
  refine g_iconst (pc' := 6) (v := (0 : Int32)) hc rfl zki_0 rfl ?_
  refine g_istore (pc' := 8) (ls1 := [some (.ref 3), some (.ref 1), some (.ref 10), some (.int a3), some (.int a4), some (.int (0 : Int32))]) hc rfl (zlt rfl) rfl rfl ?_
  refine zjs (G := (fun (g : (Nat → Int32) × Int32 × Int32 × Int32 × Int32 × Int32) => match g with | (y9, y10, y11, y12, y13, y14) => ∀ z8 : Option Value, znl z8 = true → pm_ev C_X4_readRow (d + 1) (pm_call M cost zext d) cost (false, false) 108 0 0 Q 81 [some (.ref 3), some (.ref 1), some (.ref 10), some (.int a3), some (.int a4), z8] [] 0 0 (zS p q I [(1, some 3, fun _ => y14), (1, some 4, fun _ => y11), (1, some 5, fun _ => y12), (1, some 6, fun _ => y13), (3, some 1, fun _ => y10), (10, none, y9)] J []))) h ?_ (fun h => ?_)
  · rintro ⟨y9, y10, y11, y12, y13, y14⟩ h z8 hz8
    refine g_aload_n (pc' := 82)  hc rfl rfl rfl rfl ?_
    refine z_getI (pc' := 85) (v := y10) hc rfl rfl rfl sh_3 rfl rfl rfl ?_
    refine g_if_le (pc' := 88) hc rfl rfl (fun hx => ?_) (fun hx => ?_)
    · replace h := zwp_t h hx
      refine g_iconst (pc' := 93) (v := (1 : Int32)) hc rfl zki_1 rfl ?_
      replace h := zws h
      exact g_ireturn hc rfl rfl rfl (fun _ => ⟨rfl, rfl⟩) h
    · replace h := zwp_f h hx
      refine g_iconst (pc' := 89) (v := (0 : Int32)) hc rfl zki_0 rfl ?_
      refine g_goto hc rfl ?_
      replace h := zws h
      exact g_ireturn hc rfl rfl rfl (fun _ => ⟨rfl, rfl⟩) h
  refine zitr_ev (G := (fun (g : Int32 × (Nat → Int32) × Int32 × Int32 × Int32 × Int32 × Int32) => match g with | (x1, x2, x3, x4, x5, x6, x7) => pm_ev C_X4_readRow (d + 1) (pm_call M cost zext d) cost (false, false) 108 0 0 Q 8 [some (.ref 3), some (.ref 1), some (.ref 10), some (.int a3), some (.int a4), some (.int x1)] [] 0 0 (zS p q I [(1, some 3, fun _ => x7), (1, some 4, fun _ => x4), (1, some 5, fun _ => x5), (1, some 6, fun _ => x6), (3, some 1, fun _ => x3), (10, none, x2)] J []))) ?_ zFU ((0 : Int32), (I 10), (0 : Int32), (I 1 4), (I 1 5), (I 1 6), (I 1 3)) h
  rintro ⟨x1, x2, x3, x4, x5, x6, x7⟩ h
  refine g_iload (pc' := 10)  hc rfl rfl rfl ?_
  refine g_bipush (pc' := 12) (v := (8 : Int32)) hc rfl zkb_8 rfl ?_
  refine g_icmp_gt (pc' := 15) hc rfl rfl (fun hx => ?_) (fun hx => ?_)
  · replace h := zwp_t h hx
    replace h := zwp_r h
    exact h (some (.int x1)) rfl
  · replace h := zwp_f h hx
    refine g_aload_n (pc' := 16)  hc rfl rfl rfl rfl ?_
    refine z_getI (pc' := 19) (v := x5) hc rfl rfl rfl sh_1 rfl rfl rfl ?_
    refine g_iconst (pc' := 20) (v := (2 : Int32)) hc rfl zki_2 rfl ?_
    refine g_icmp_ne (pc' := 23) hc rfl rfl (fun hx => ?_) (fun hx => ?_)
    · replace h := zwp_f h hx
      replace h := zwp_r h
      exact h (some (.int x1)) rfl
    · replace h := zwp_t h hx
      refine g_iload (pc' := 25)  hc rfl rfl rfl ?_
      refine g_bipush (pc' := 27) (v := (8 : Int32)) hc rfl zkb_8 rfl ?_
      refine g_icmp_eq (pc' := 30) hc rfl rfl (fun hx => ?_) (fun hx => ?_)
      · replace h := zwp_t h hx
        refine g_iconst (pc' := 41) (v := (2 : Int32)) hc rfl zki_2 rfl ?_
        replace h := zws h
        exact g_ireturn hc rfl rfl rfl (fun _ => ⟨rfl, rfl⟩) h
      · replace h := zwp_f h hx
        refine g_aload_n (pc' := 31)  hc rfl rfl rfl rfl ?_
        refine g_iconst (pc' := 32) (v := (0 : Int32)) hc rfl zki_0 rfl ?_
        refine g_iload (pc' := 34)  hc rfl rfl rfl ?_
        refine z_virt (as := [.int (0 : Int32), .int a4]) (a := 1) (r := []) hc rfl rfl rfl rfl sh_1 rfl zco_87 rfl rfl rfl ?_
        refine ok_X9_numberFault_1 (zdp hd rfl) (zwp_mono (zwp_bind h) ?_)
        rintro r15 h
        refine z_po (pc' := 37) (st' := [.int r15]) (v := (some (.int r15))) (L' := [(1, some 3, fun _ => x7), (1, some 4, fun _ => x4), (1, some 5, fun _ => x5), (1, some 6, fun _ => x6), (3, some 1, fun _ => x3), (10, none, x2)]) (K' := []) zco_87 rfl rfl rfl rfl rfl rfl rfl rfl ?_
        refine g_if_eq (pc' := 40) hc rfl rfl (fun hx => ?_) (fun hx => ?_)
        · replace h := zwp_t h hx
          refine g_iload_n (pc' := 43)  hc rfl rfl rfl ?_
          refine g_iload (pc' := 45)  hc rfl rfl rfl ?_
          refine g_iadd (pc' := 46)  hc rfl rfl ?_
          refine g_aload_n (pc' := 47)  hc rfl rfl rfl rfl ?_
          refine z_alen (pc' := 48) (v := (Int32.ofNat 64)) hc rfl rfl sh_10 ⟨by decide, by decide⟩ rfl rfl ?_
          refine zjn (G := (fun (j16 : (Nat → Int32)) => pm_ev C_X4_readRow (d + 1) (pm_call M cost zext d) cost (false, false) 108 0 0 Q 61 [some (.ref 3), some (.ref 1), some (.ref 10), some (.int a3), some (.int a4), some (.int x1)] [] 0 0 (zS p q I [(1, some 3, fun _ => x7), (1, some 4, fun _ => x4), (1, some 5, fun _ => x5), (1, some 6, fun _ => x6), (3, some 1, fun _ => x3), (10, none, j16)] J []))) (zwp_bind h) ?_ (fun h => ?_)
          · rintro j16 h
            refine g_aload_n (pc' := 62)  hc rfl rfl rfl rfl ?_
            refine g_dup (pc' := 63)  hc rfl rfl rfl ?_
            refine z_getI (pc' := 66) (v := x3) hc rfl rfl rfl sh_3 rfl rfl rfl ?_
            refine g_iconst (pc' := 67) (v := (1 : Int32)) hc rfl zki_1 rfl ?_
            refine g_iadd (pc' := 68)  hc rfl rfl ?_
            refine z_putI (pc' := 71) (L' := [(1, some 3, fun _ => x7), (1, some 4, fun _ => x4), (1, some 5, fun _ => x5), (1, some 6, fun _ => x6), (3, some 1, fun _ => (x3 + (1 : Int32))), (10, none, j16)]) hc rfl rfl rfl sh_3 rfl zft_4_1 rfl (fun h => Bool.noConfusion h) rfl rfl rfl ?_
            refine g_aload_n (pc' := 72)  hc rfl rfl rfl rfl ?_
            refine z_virt (as := []) (a := 1) (r := []) hc rfl rfl rfl rfl sh_1 rfl zco_83 rfl rfl rfl ?_
            refine ok_X9_advance_1 (zdp hd rfl) (zwp_mono (zwp_bind h) ?_)
            rintro ⟨o17, o18, o19, o20⟩ h
            refine z_po (pc' := 75) (st' := []) (v := none) (L' := [(1, some 3, fun _ => o20), (1, some 4, fun _ => o17), (1, some 5, fun _ => o18), (1, some 6, fun _ => o19), (3, some 1, fun _ => (x3 + (1 : Int32))), (10, none, j16)]) (K' := []) zco_83 rfl rfl rfl rfl rfl rfl rfl rfl ?_
            refine g_iinc (pc' := 78) (ls1 := [some (.ref 3), some (.ref 1), some (.ref 10), some (.int a3), some (.int a4), some (.int (x1 + (1 : Int32)))]) hc rfl rfl zki_1 (zlt rfl) rfl rfl ?_
            refine g_goto hc rfl ?_
            replace h := zwp_l h
            exact h
          refine g_icmp_ge (pc' := 51) hc rfl rfl (fun hx => ?_) (fun hx => ?_)
          · replace h := zwp_t h hx
            replace h := zws h
            exact h
          · replace h := zwp_f h hx
            refine g_aload_n (pc' := 52)  hc rfl rfl rfl rfl ?_
            refine g_iload_n (pc' := 53)  hc rfl rfl rfl ?_
            refine g_iload (pc' := 55)  hc rfl rfl rfl ?_
            refine g_iadd (pc' := 56)  hc rfl rfl ?_
            refine g_aload_n (pc' := 57)  hc rfl rfl rfl rfl ?_
            refine z_getI (pc' := 60) (v := x6) hc rfl rfl rfl sh_1 rfl rfl rfl ?_
            have hb := (zwp_bnd h).1
            replace h := (zwp_bnd h).2
            refine z_iastore (pc' := 61) (g := x2) (L' := [(1, some 3, fun _ => x7), (1, some 4, fun _ => x4), (1, some 5, fun _ => x5), (1, some 6, fun _ => x6), (3, some 1, fun _ => x3), (10, none, (upd x2 (a3 + x1).toNatClampNeg x6))]) hc rfl rfl sh_10 hb rfl rfl rfl rfl ?_
            replace h := zws h
            exact h
        · replace h := zwp_f h hx
          refine g_iconst (pc' := 41) (v := (2 : Int32)) hc rfl zki_2 rfl ?_
          replace h := zws h
          exact g_ireturn hc rfl rfl rfl (fun _ => ⟨rfl, rfl⟩) h
set_option maxRecDepth 4000 in
theorem ok_X4_readFigure_3_1_7 {p q : Nat} {I : pI} {J : pJ} {Q : pQ} {d : Nat} (hd : 9 ≤ d) (h : zwp (f_X4_readFigure (I 7 3) (I 7 1) (I 8) (I 9) (J 7 2) (I 10) (I 7 0) (I 3 1) (I 2) (I 1 4) (I 1 5) (I 1 2) (I 1 6) (I 1 3)) (fun w => match w with | (r, o0, o1, o2, o3, o4, o5, o6, o7, o8) => Q (.inl (some (.int r))) (zS p q I [(1, some 3, fun _ => o8), (1, some 4, fun _ => o5), (1, some 5, fun _ => o6), (1, some 6, fun _ => o7), (3, some 1, fun _ => o4), (7, some 3, fun _ => o0), (8, none, o1), (9, none, o2), (10, none, o3)] J []))) : pm_call M cost zext d 36 [.ref 3, .ref 1, .ref 7] (pm_st 108 (shp p q) I J) Q := by
  obtain ⟨d, rfl⟩ := zd1 hd rfl
  have hc := pm_call_m (M := M) (cost := cost) zext_m d
  refine z_in (L := [(1, some 3, fun _ => (I 1 3)), (1, some 4, fun _ => (I 1 4)), (1, some 5, fun _ => (I 1 5)), (1, some 6, fun _ => (I 1 6)), (3, some 1, fun _ => (I 3 1)), (7, some 3, fun _ => (I 7 3)), (8, none, (I 8)), (9, none, (I 9)), (10, none, (I 10))]) (K := []) (ls := [some (.ref 3), some (.ref 1), some (.ref 7), none, none]) zmt_36 zco_36 rfl rfl (zid_s (zid_s (zid_s (zid_s (zid_s (zid_s (zid_a (zid_a (zid_a zid_n))))))))) zid_n ?_
  delta f_X4_readFigure at h
  refine g_aload_n (pc' := 1)  hc rfl rfl rfl rfl ?_
  refine z_getI (pc' := 4) (v := (I 7 3)) hc rfl rfl rfl sh_7 rfl rfl rfl ?_
  refine g_bipush (pc' := 6) (v := (8 : Int32)) hc rfl zkb_8 rfl ?_
  refine g_icmp_lt (pc' := 9) hc rfl rfl (fun hx => ?_) (fun hx => ?_)
  · replace h := zwp_t h hx
    refine g_aload_n (pc' := 12)  hc rfl rfl rfl rfl ?_
    refine z_virt (as := []) (a := 1) (r := []) hc rfl rfl rfl rfl sh_1 rfl zco_83 rfl rfl rfl ?_
    refine ok_X9_advance_1 (zdp hd rfl) (zwp_mono (zwp_bind h) ?_)
    rintro ⟨o1, o2, o3, o4⟩ h
    refine z_po (pc' := 15) (st' := []) (v := none) (L' := [(1, some 3, fun _ => o4), (1, some 4, fun _ => o1), (1, some 5, fun _ => o2), (1, some 6, fun _ => o3), (3, some 1, fun _ => (I 3 1)), (7, some 3, fun _ => (I 7 3)), (8, none, (I 8)), (9, none, (I 9)), (10, none, (I 10))]) (K' := []) zco_83 rfl rfl rfl rfl rfl rfl rfl rfl ?_
    refine g_aload_n (pc' := 16)  hc rfl rfl rfl rfl ?_
    refine g_aload_n (pc' := 17)  hc rfl rfl rfl rfl ?_
    refine z_stat (as := [.ref 1, .ref 7]) (r := []) hc rfl rfl rfl rfl zco_34 rfl rfl rfl ?_
    refine ok_X4_cellFault_1_7 (zdp hd rfl) (zwp_mono (zwp_bind h) ?_)
    rintro r5 h
    refine z_po (pc' := 20) (st' := [.int r5]) (v := (some (.int r5))) (L' := [(1, some 3, fun _ => o4), (1, some 4, fun _ => o1), (1, some 5, fun _ => o2), (1, some 6, fun _ => o3), (3, some 1, fun _ => (I 3 1)), (7, some 3, fun _ => (I 7 3)), (8, none, (I 8)), (9, none, (I 9)), (10, none, (I 10))]) (K' := []) zco_34 rfl rfl rfl rfl rfl rfl rfl rfl ?_
    refine g_istore_n (pc' := 21) (ls1 := [some (.ref 3), some (.ref 1), some (.ref 7), some (.int r5), none]) hc rfl (zlt rfl) rfl rfl ?_
    refine g_iload_n (pc' := 22)  hc rfl rfl rfl ?_
    refine g_if_eq (pc' := 25) hc rfl rfl (fun hx => ?_) (fun hx => ?_)
    · replace h := zwp_t h hx
      refine g_aload_n (pc' := 28)  hc rfl rfl rfl rfl ?_
      refine z_getI (pc' := 31) (v := (I 7 3)) hc rfl rfl rfl sh_7 rfl rfl rfl ?_
      refine g_istore (pc' := 33) (ls1 := [some (.ref 3), some (.ref 1), some (.ref 7), some (.int r5), some (.int (I 7 3))]) hc rfl (zlt rfl) rfl rfl ?_
      refine g_aload_n (pc' := 34)  hc rfl rfl rfl rfl ?_
      refine z_getR (pc' := 37)  hc rfl rfl rfl sh_7 rfl rfl ?_
      refine g_iload (pc' := 39)  hc rfl rfl rfl ?_
      refine g_aload_n (pc' := 40)  hc rfl rfl rfl rfl ?_
      refine z_getI (pc' := 43) (v := o3) hc rfl rfl rfl sh_1 rfl rfl rfl ?_
      have hb := (zwp_bnd h).1
      replace h := (zwp_bnd h).2
      refine z_iastore (pc' := 44) (g := (I 8)) (L' := [(1, some 3, fun _ => o4), (1, some 4, fun _ => o1), (1, some 5, fun _ => o2), (1, some 6, fun _ => o3), (3, some 1, fun _ => (I 3 1)), (7, some 3, fun _ => (I 7 3)), (8, none, (upd ((I 8)) ((I 7 3)).toNatClampNeg o3)), (9, none, (I 9)), (10, none, (I 10))]) hc rfl rfl sh_8 hb rfl rfl rfl rfl ?_
      refine g_aload_n (pc' := 45)  hc rfl rfl rfl rfl ?_
      refine z_virt (as := []) (a := 1) (r := []) hc rfl rfl rfl rfl sh_1 rfl zco_83 rfl rfl rfl ?_
      refine ok_X9_advance_1 (zdp hd rfl) (zwp_mono (zwp_bind h) ?_)
      rintro ⟨o6, o7, o8, o9⟩ h
      refine z_po (pc' := 48) (st' := []) (v := none) (L' := [(1, some 3, fun _ => o9), (1, some 4, fun _ => o6), (1, some 5, fun _ => o7), (1, some 6, fun _ => o8), (3, some 1, fun _ => (I 3 1)), (7, some 3, fun _ => (I 7 3)), (8, none, (upd ((I 8)) ((I 7 3)).toNatClampNeg o3)), (9, none, (I 9)), (10, none, (I 10))]) (K' := []) zco_83 rfl rfl rfl rfl rfl rfl rfl rfl ?_
      refine g_aload_n (pc' := 49)  hc rfl rfl rfl rfl ?_
      refine g_aload_n (pc' := 50)  hc rfl rfl rfl rfl ?_
      refine g_aload_n (pc' := 51)  hc rfl rfl rfl rfl ?_
      refine z_getR (pc' := 54)  hc rfl rfl rfl sh_7 rfl rfl ?_
      refine g_iload (pc' := 56)  hc rfl rfl rfl ?_
      refine g_bipush (pc' := 58) (v := (8 : Int32)) hc rfl zkb_8 rfl ?_
      refine g_imul (pc' := 59)  hc rfl rfl ?_
      refine g_iconst (pc' := 60) (v := (4 : Int32)) hc rfl zki_4 rfl ?_
      refine z_virt (as := [.ref 1, .ref 10, .int (((I 7 3)) * (8 : Int32)), .int (4 : Int32)]) (a := 3) (r := []) hc rfl rfl rfl rfl sh_3 rfl zco_39 rfl rfl rfl ?_
      refine ok_X4_readRow_3_1_10 (zdp hd rfl) (zwp_mono (zwp_bind h) ?_)
      rintro ⟨r16, o10, o11, o12, o13, o14, o15⟩ h
      refine z_po (pc' := 63) (st' := [.int r16]) (v := (some (.int r16))) (L' := [(1, some 3, fun _ => o15), (1, some 4, fun _ => o12), (1, some 5, fun _ => o13), (1, some 6, fun _ => o14), (3, some 1, fun _ => o11), (7, some 3, fun _ => (I 7 3)), (8, none, (upd ((I 8)) ((I 7 3)).toNatClampNeg o3)), (9, none, (I 9)), (10, none, o10)]) (K' := []) zco_39 rfl rfl rfl rfl rfl rfl rfl rfl ?_
      refine g_istore_n (pc' := 64) (ls1 := [some (.ref 3), some (.ref 1), some (.ref 7), some (.int r16), some (.int (I 7 3))]) hc rfl (zlt rfl) rfl rfl ?_
      refine g_aload_n (pc' := 65)  hc rfl rfl rfl rfl ?_
      refine z_getR (pc' := 68)  hc rfl rfl rfl sh_7 rfl rfl ?_
      refine g_iload (pc' := 70)  hc rfl rfl rfl ?_
      refine g_aload_n (pc' := 71)  hc rfl rfl rfl rfl ?_
      refine z_getI (pc' := 74) (v := o11) hc rfl rfl rfl sh_3 rfl rfl rfl ?_
      have hb := (zwp_bnd h).1
      replace h := (zwp_bnd h).2
      refine z_iastore (pc' := 75) (g := (I 9)) (L' := [(1, some 3, fun _ => o15), (1, some 4, fun _ => o12), (1, some 5, fun _ => o13), (1, some 6, fun _ => o14), (3, some 1, fun _ => o11), (7, some 3, fun _ => (I 7 3)), (8, none, (upd ((I 8)) ((I 7 3)).toNatClampNeg o3)), (9, none, (upd ((I 9)) ((I 7 3)).toNatClampNeg o11)), (10, none, o10)]) hc rfl rfl sh_9 hb rfl rfl rfl rfl ?_
      refine g_aload_n (pc' := 76)  hc rfl rfl rfl rfl ?_
      refine g_dup (pc' := 77)  hc rfl rfl rfl ?_
      refine z_getI (pc' := 80) (v := (I 7 3)) hc rfl rfl rfl sh_7 rfl rfl rfl ?_
      refine g_iconst (pc' := 81) (v := (1 : Int32)) hc rfl zki_1 rfl ?_
      refine g_iadd (pc' := 82)  hc rfl rfl ?_
      refine z_putI (pc' := 85) (L' := [(1, some 3, fun _ => o15), (1, some 4, fun _ => o12), (1, some 5, fun _ => o13), (1, some 6, fun _ => o14), (3, some 1, fun _ => o11), (7, some 3, fun _ => (((I 7 3)) + (1 : Int32))), (8, none, (upd ((I 8)) ((I 7 3)).toNatClampNeg o3)), (9, none, (upd ((I 9)) ((I 7 3)).toNatClampNeg o11)), (10, none, o10)]) hc rfl rfl rfl sh_7 rfl zft_3_3 rfl (fun h => Bool.noConfusion h) rfl rfl rfl ?_
      refine g_iload_n (pc' := 86)  hc rfl rfl rfl ?_
      replace h := zws h
      exact g_ireturn hc rfl rfl rfl (fun _ => ⟨rfl, rfl⟩) h
    · replace h := zwp_f h hx
      refine g_iload_n (pc' := 26)  hc rfl rfl rfl ?_
      replace h := zws h
      exact g_ireturn hc rfl rfl rfl (fun _ => ⟨rfl, rfl⟩) h
  · replace h := zwp_f h hx
    refine g_iconst (pc' := 10) (v := (2 : Int32)) hc rfl zki_2 rfl ?_
    replace h := zws h
    exact g_ireturn hc rfl rfl rfl (fun _ => ⟨rfl, rfl⟩) h
set_option maxRecDepth 4000 in
theorem ok_X4_readSeat_1_7 {p q : Nat} {I : pI} {J : pJ} {Q : pQ} {d : Nat} (hd : 8 ≤ d) (h : zwp (f_X4_readSeat (I 7 1) (I 11) (I 7 7) (J 7 2) (I 7 0) (I 2) (I 1 4) (I 1 5) (I 1 2) (I 1 6) (I 1 3)) (fun w => match w with | (r, o0, o1, o2, o3, o4, o5) => Q (.inl (some (.int r))) (zS p q I [(1, some 3, fun _ => o5), (1, some 4, fun _ => o2), (1, some 5, fun _ => o3), (1, some 6, fun _ => o4), (7, some 7, fun _ => o1), (11, none, o0)] J []))) : pm_call M cost zext d 37 [.ref 1, .ref 7] (pm_st 108 (shp p q) I J) Q := by
  obtain ⟨d, rfl⟩ := zd1 hd rfl
  have hc := pm_call_m (M := M) (cost := cost) zext_m d
  refine z_in (L := [(1, some 3, fun _ => (I 1 3)), (1, some 4, fun _ => (I 1 4)), (1, some 5, fun _ => (I 1 5)), (1, some 6, fun _ => (I 1 6)), (7, some 7, fun _ => (I 7 7)), (11, none, (I 11))]) (K := []) (ls := [some (.ref 1), some (.ref 7), none]) zmt_37 zco_37 rfl rfl (zid_s (zid_s (zid_s (zid_s (zid_s (zid_a zid_n)))))) zid_n ?_
  delta f_X4_readSeat at h
  refine g_aload_n (pc' := 1)  hc rfl rfl rfl rfl ?_
  refine z_getI (pc' := 4) (v := (I 7 7)) hc rfl rfl rfl sh_7 rfl rfl rfl ?_
  refine g_bipush (pc' := 6) (v := (8 : Int32)) hc rfl zkb_8 rfl ?_
  refine g_icmp_lt (pc' := 9) hc rfl rfl (fun hx => ?_) (fun hx => ?_)
  · replace h := zwp_t h hx
    refine g_aload_n (pc' := 12)  hc rfl rfl rfl rfl ?_
    refine z_virt (as := []) (a := 1) (r := []) hc rfl rfl rfl rfl sh_1 rfl zco_83 rfl rfl rfl ?_
    refine ok_X9_advance_1 (zdp hd rfl) (zwp_mono (zwp_bind h) ?_)
    rintro ⟨o1, o2, o3, o4⟩ h
    refine z_po (pc' := 15) (st' := []) (v := none) (L' := [(1, some 3, fun _ => o4), (1, some 4, fun _ => o1), (1, some 5, fun _ => o2), (1, some 6, fun _ => o3), (7, some 7, fun _ => (I 7 7)), (11, none, (I 11))]) (K' := []) zco_83 rfl rfl rfl rfl rfl rfl rfl rfl ?_
    refine g_aload_n (pc' := 16)  hc rfl rfl rfl rfl ?_
    refine g_aload_n (pc' := 17)  hc rfl rfl rfl rfl ?_
    refine z_stat (as := [.ref 1, .ref 7]) (r := []) hc rfl rfl rfl rfl zco_34 rfl rfl rfl ?_
    refine ok_X4_cellFault_1_7 (zdp hd rfl) (zwp_mono (zwp_bind h) ?_)
    rintro r5 h
    refine z_po (pc' := 20) (st' := [.int r5]) (v := (some (.int r5))) (L' := [(1, some 3, fun _ => o4), (1, some 4, fun _ => o1), (1, some 5, fun _ => o2), (1, some 6, fun _ => o3), (7, some 7, fun _ => (I 7 7)), (11, none, (I 11))]) (K' := []) zco_34 rfl rfl rfl rfl rfl rfl rfl rfl ?_
    refine g_istore_n (pc' := 21) (ls1 := [some (.ref 1), some (.ref 7), some (.int r5)]) hc rfl (zlt rfl) rfl rfl ?_
    refine g_iload_n (pc' := 22)  hc rfl rfl rfl ?_
    refine g_if_eq (pc' := 25) hc rfl rfl (fun hx => ?_) (fun hx => ?_)
    · replace h := zwp_t h hx
      refine g_aload_n (pc' := 28)  hc rfl rfl rfl rfl ?_
      refine z_getR (pc' := 31)  hc rfl rfl rfl sh_7 rfl rfl ?_
      refine g_aload_n (pc' := 32)  hc rfl rfl rfl rfl ?_
      refine z_getI (pc' := 35) (v := (I 7 7)) hc rfl rfl rfl sh_7 rfl rfl rfl ?_
      refine g_aload_n (pc' := 36)  hc rfl rfl rfl rfl ?_
      refine z_getI (pc' := 39) (v := o3) hc rfl rfl rfl sh_1 rfl rfl rfl ?_
      have hb := (zwp_bnd h).1
      replace h := (zwp_bnd h).2
      refine z_iastore (pc' := 40) (g := (I 11)) (L' := [(1, some 3, fun _ => o4), (1, some 4, fun _ => o1), (1, some 5, fun _ => o2), (1, some 6, fun _ => o3), (7, some 7, fun _ => (I 7 7)), (11, none, (upd ((I 11)) ((I 7 7)).toNatClampNeg o3))]) hc rfl rfl sh_11 hb rfl rfl rfl rfl ?_
      refine g_aload_n (pc' := 41)  hc rfl rfl rfl rfl ?_
      refine g_dup (pc' := 42)  hc rfl rfl rfl ?_
      refine z_getI (pc' := 45) (v := (I 7 7)) hc rfl rfl rfl sh_7 rfl rfl rfl ?_
      refine g_iconst (pc' := 46) (v := (1 : Int32)) hc rfl zki_1 rfl ?_
      refine g_iadd (pc' := 47)  hc rfl rfl ?_
      refine z_putI (pc' := 50) (L' := [(1, some 3, fun _ => o4), (1, some 4, fun _ => o1), (1, some 5, fun _ => o2), (1, some 6, fun _ => o3), (7, some 7, fun _ => (((I 7 7)) + (1 : Int32))), (11, none, (upd ((I 11)) ((I 7 7)).toNatClampNeg o3))]) hc rfl rfl rfl sh_7 rfl zft_3_7 rfl (fun h => Bool.noConfusion h) rfl rfl rfl ?_
      refine g_aload_n (pc' := 51)  hc rfl rfl rfl rfl ?_
      refine z_virt (as := []) (a := 1) (r := []) hc rfl rfl rfl rfl sh_1 rfl zco_83 rfl rfl rfl ?_
      refine ok_X9_advance_1 (zdp hd rfl) (zwp_mono (zwp_bind h) ?_)
      rintro ⟨o6, o7, o8, o9⟩ h
      refine z_po (pc' := 54) (st' := []) (v := none) (L' := [(1, some 3, fun _ => o9), (1, some 4, fun _ => o6), (1, some 5, fun _ => o7), (1, some 6, fun _ => o8), (7, some 7, fun _ => (((I 7 7)) + (1 : Int32))), (11, none, (upd ((I 11)) ((I 7 7)).toNatClampNeg o3))]) (K' := []) zco_83 rfl rfl rfl rfl rfl rfl rfl rfl ?_
      refine g_iconst (pc' := 55) (v := (0 : Int32)) hc rfl zki_0 rfl ?_
      replace h := zws h
      exact g_ireturn hc rfl rfl rfl (fun _ => ⟨rfl, rfl⟩) h
    · replace h := zwp_f h hx
      refine g_iload_n (pc' := 26)  hc rfl rfl rfl ?_
      replace h := zws h
      exact g_ireturn hc rfl rfl rfl (fun _ => ⟨rfl, rfl⟩) h
  · replace h := zwp_f h hx
    refine g_iconst (pc' := 10) (v := (2 : Int32)) hc rfl zki_2 rfl ?_
    replace h := zws h
    exact g_ireturn hc rfl rfl rfl (fun _ => ⟨rfl, rfl⟩) h
set_option maxRecDepth 4000 in
theorem ok_X4_readRow_3_1_12 {p q : Nat} {I : pI} {J : pJ} {a3 : Int32} {a4 : Int32} {Q : pQ} {d : Nat} (hd : 8 ≤ d) (h : zwp (f_X4_readRow a3 a4 8 (I 12) (I 3 1) (I 2) (I 1 4) (I 1 5) (I 1 2) (I 1 6) (I 1 3)) (fun w => match w with | (r, o0, o1, o2, o3, o4, o5) => Q (.inl (some (.int r))) (zS p q I [(1, some 3, fun _ => o5), (1, some 4, fun _ => o2), (1, some 5, fun _ => o3), (1, some 6, fun _ => o4), (3, some 1, fun _ => o1), (12, none, o0)] J []))) : pm_call M cost zext d 39 [.ref 3, .ref 1, .ref 12, .int a3, .int a4] (pm_st 108 (shp p q) I J) Q := by
  obtain ⟨d, rfl⟩ := zd1 hd rfl
  have hc := pm_call_m (M := M) (cost := cost) zext_m d
  refine z_in (L := [(1, some 3, fun _ => (I 1 3)), (1, some 4, fun _ => (I 1 4)), (1, some 5, fun _ => (I 1 5)), (1, some 6, fun _ => (I 1 6)), (3, some 1, fun _ => (I 3 1)), (12, none, (I 12))]) (K := []) (ls := [some (.ref 3), some (.ref 1), some (.ref 12), some (.int a3), some (.int a4), none]) zmt_39 zco_39 rfl rfl (zid_s (zid_s (zid_s (zid_s (zid_s (zid_a zid_n)))))) zid_n ?_
  delta f_X4_readRow at h
  refine g_aload_n (pc' := 1)  hc rfl rfl rfl rfl ?_
  refine g_iconst (pc' := 2) (v := (0 : Int32)) hc rfl zki_0 rfl ?_
  refine z_putI (pc' := 5) (L' := [(1, some 3, fun _ => (I 1 3)), (1, some 4, fun _ => (I 1 4)), (1, some 5, fun _ => (I 1 5)), (1, some 6, fun _ => (I 1 6)), (3, some 1, fun _ => (0 : Int32)), (12, none, (I 12))]) hc rfl rfl rfl sh_3 rfl zft_4_1 rfl (fun h => Bool.noConfusion h) rfl rfl rfl ?_
  refine g_iconst (pc' := 6) (v := (0 : Int32)) hc rfl zki_0 rfl ?_
  refine g_istore (pc' := 8) (ls1 := [some (.ref 3), some (.ref 1), some (.ref 12), some (.int a3), some (.int a4), some (.int (0 : Int32))]) hc rfl (zlt rfl) rfl rfl ?_
  refine zjs (G := (fun (g : (Nat → Int32) × Int32 × Int32 × Int32 × Int32 × Int32) => match g with | (y9, y10, y11, y12, y13, y14) => ∀ z8 : Option Value, znl z8 = true → pm_ev C_X4_readRow (d + 1) (pm_call M cost zext d) cost (false, false) 108 0 0 Q 81 [some (.ref 3), some (.ref 1), some (.ref 12), some (.int a3), some (.int a4), z8] [] 0 0 (zS p q I [(1, some 3, fun _ => y14), (1, some 4, fun _ => y11), (1, some 5, fun _ => y12), (1, some 6, fun _ => y13), (3, some 1, fun _ => y10), (12, none, y9)] J []))) h ?_ (fun h => ?_)
  · rintro ⟨y9, y10, y11, y12, y13, y14⟩ h z8 hz8
    refine g_aload_n (pc' := 82)  hc rfl rfl rfl rfl ?_
    refine z_getI (pc' := 85) (v := y10) hc rfl rfl rfl sh_3 rfl rfl rfl ?_
    refine g_if_le (pc' := 88) hc rfl rfl (fun hx => ?_) (fun hx => ?_)
    · replace h := zwp_t h hx
      refine g_iconst (pc' := 93) (v := (1 : Int32)) hc rfl zki_1 rfl ?_
      replace h := zws h
      exact g_ireturn hc rfl rfl rfl (fun _ => ⟨rfl, rfl⟩) h
    · replace h := zwp_f h hx
      refine g_iconst (pc' := 89) (v := (0 : Int32)) hc rfl zki_0 rfl ?_
      refine g_goto hc rfl ?_
      replace h := zws h
      exact g_ireturn hc rfl rfl rfl (fun _ => ⟨rfl, rfl⟩) h
  refine zitr_ev (G := (fun (g : Int32 × (Nat → Int32) × Int32 × Int32 × Int32 × Int32 × Int32) => match g with | (x1, x2, x3, x4, x5, x6, x7) => pm_ev C_X4_readRow (d + 1) (pm_call M cost zext d) cost (false, false) 108 0 0 Q 8 [some (.ref 3), some (.ref 1), some (.ref 12), some (.int a3), some (.int a4), some (.int x1)] [] 0 0 (zS p q I [(1, some 3, fun _ => x7), (1, some 4, fun _ => x4), (1, some 5, fun _ => x5), (1, some 6, fun _ => x6), (3, some 1, fun _ => x3), (12, none, x2)] J []))) ?_ zFU ((0 : Int32), (I 12), (0 : Int32), (I 1 4), (I 1 5), (I 1 6), (I 1 3)) h
  rintro ⟨x1, x2, x3, x4, x5, x6, x7⟩ h
  refine g_iload (pc' := 10)  hc rfl rfl rfl ?_
  refine g_bipush (pc' := 12) (v := (8 : Int32)) hc rfl zkb_8 rfl ?_
  refine g_icmp_gt (pc' := 15) hc rfl rfl (fun hx => ?_) (fun hx => ?_)
  · replace h := zwp_t h hx
    replace h := zwp_r h
    exact h (some (.int x1)) rfl
  · replace h := zwp_f h hx
    refine g_aload_n (pc' := 16)  hc rfl rfl rfl rfl ?_
    refine z_getI (pc' := 19) (v := x5) hc rfl rfl rfl sh_1 rfl rfl rfl ?_
    refine g_iconst (pc' := 20) (v := (2 : Int32)) hc rfl zki_2 rfl ?_
    refine g_icmp_ne (pc' := 23) hc rfl rfl (fun hx => ?_) (fun hx => ?_)
    · replace h := zwp_f h hx
      replace h := zwp_r h
      exact h (some (.int x1)) rfl
    · replace h := zwp_t h hx
      refine g_iload (pc' := 25)  hc rfl rfl rfl ?_
      refine g_bipush (pc' := 27) (v := (8 : Int32)) hc rfl zkb_8 rfl ?_
      refine g_icmp_eq (pc' := 30) hc rfl rfl (fun hx => ?_) (fun hx => ?_)
      · replace h := zwp_t h hx
        refine g_iconst (pc' := 41) (v := (2 : Int32)) hc rfl zki_2 rfl ?_
        replace h := zws h
        exact g_ireturn hc rfl rfl rfl (fun _ => ⟨rfl, rfl⟩) h
      · replace h := zwp_f h hx
        refine g_aload_n (pc' := 31)  hc rfl rfl rfl rfl ?_
        refine g_iconst (pc' := 32) (v := (0 : Int32)) hc rfl zki_0 rfl ?_
        refine g_iload (pc' := 34)  hc rfl rfl rfl ?_
        refine z_virt (as := [.int (0 : Int32), .int a4]) (a := 1) (r := []) hc rfl rfl rfl rfl sh_1 rfl zco_87 rfl rfl rfl ?_
        refine ok_X9_numberFault_1 (zdp hd rfl) (zwp_mono (zwp_bind h) ?_)
        rintro r15 h
        refine z_po (pc' := 37) (st' := [.int r15]) (v := (some (.int r15))) (L' := [(1, some 3, fun _ => x7), (1, some 4, fun _ => x4), (1, some 5, fun _ => x5), (1, some 6, fun _ => x6), (3, some 1, fun _ => x3), (12, none, x2)]) (K' := []) zco_87 rfl rfl rfl rfl rfl rfl rfl rfl ?_
        refine g_if_eq (pc' := 40) hc rfl rfl (fun hx => ?_) (fun hx => ?_)
        · replace h := zwp_t h hx
          refine g_iload_n (pc' := 43)  hc rfl rfl rfl ?_
          refine g_iload (pc' := 45)  hc rfl rfl rfl ?_
          refine g_iadd (pc' := 46)  hc rfl rfl ?_
          refine g_aload_n (pc' := 47)  hc rfl rfl rfl rfl ?_
          refine z_alen (pc' := 48) (v := (Int32.ofNat 8)) hc rfl rfl sh_12 ⟨by decide, by decide⟩ rfl rfl ?_
          refine zjn (G := (fun (j16 : (Nat → Int32)) => pm_ev C_X4_readRow (d + 1) (pm_call M cost zext d) cost (false, false) 108 0 0 Q 61 [some (.ref 3), some (.ref 1), some (.ref 12), some (.int a3), some (.int a4), some (.int x1)] [] 0 0 (zS p q I [(1, some 3, fun _ => x7), (1, some 4, fun _ => x4), (1, some 5, fun _ => x5), (1, some 6, fun _ => x6), (3, some 1, fun _ => x3), (12, none, j16)] J []))) (zwp_bind h) ?_ (fun h => ?_)
          · rintro j16 h
            refine g_aload_n (pc' := 62)  hc rfl rfl rfl rfl ?_
            refine g_dup (pc' := 63)  hc rfl rfl rfl ?_
            refine z_getI (pc' := 66) (v := x3) hc rfl rfl rfl sh_3 rfl rfl rfl ?_
            refine g_iconst (pc' := 67) (v := (1 : Int32)) hc rfl zki_1 rfl ?_
            refine g_iadd (pc' := 68)  hc rfl rfl ?_
            refine z_putI (pc' := 71) (L' := [(1, some 3, fun _ => x7), (1, some 4, fun _ => x4), (1, some 5, fun _ => x5), (1, some 6, fun _ => x6), (3, some 1, fun _ => (x3 + (1 : Int32))), (12, none, j16)]) hc rfl rfl rfl sh_3 rfl zft_4_1 rfl (fun h => Bool.noConfusion h) rfl rfl rfl ?_
            refine g_aload_n (pc' := 72)  hc rfl rfl rfl rfl ?_
            refine z_virt (as := []) (a := 1) (r := []) hc rfl rfl rfl rfl sh_1 rfl zco_83 rfl rfl rfl ?_
            refine ok_X9_advance_1 (zdp hd rfl) (zwp_mono (zwp_bind h) ?_)
            rintro ⟨o17, o18, o19, o20⟩ h
            refine z_po (pc' := 75) (st' := []) (v := none) (L' := [(1, some 3, fun _ => o20), (1, some 4, fun _ => o17), (1, some 5, fun _ => o18), (1, some 6, fun _ => o19), (3, some 1, fun _ => (x3 + (1 : Int32))), (12, none, j16)]) (K' := []) zco_83 rfl rfl rfl rfl rfl rfl rfl rfl ?_
            refine g_iinc (pc' := 78) (ls1 := [some (.ref 3), some (.ref 1), some (.ref 12), some (.int a3), some (.int a4), some (.int (x1 + (1 : Int32)))]) hc rfl rfl zki_1 (zlt rfl) rfl rfl ?_
            refine g_goto hc rfl ?_
            replace h := zwp_l h
            exact h
          refine g_icmp_ge (pc' := 51) hc rfl rfl (fun hx => ?_) (fun hx => ?_)
          · replace h := zwp_t h hx
            replace h := zws h
            exact h
          · replace h := zwp_f h hx
            refine g_aload_n (pc' := 52)  hc rfl rfl rfl rfl ?_
            refine g_iload_n (pc' := 53)  hc rfl rfl rfl ?_
            refine g_iload (pc' := 55)  hc rfl rfl rfl ?_
            refine g_iadd (pc' := 56)  hc rfl rfl ?_
            refine g_aload_n (pc' := 57)  hc rfl rfl rfl rfl ?_
            refine z_getI (pc' := 60) (v := x6) hc rfl rfl rfl sh_1 rfl rfl rfl ?_
            have hb := (zwp_bnd h).1
            replace h := (zwp_bnd h).2
            refine z_iastore (pc' := 61) (g := x2) (L' := [(1, some 3, fun _ => x7), (1, some 4, fun _ => x4), (1, some 5, fun _ => x5), (1, some 6, fun _ => x6), (3, some 1, fun _ => x3), (12, none, (upd x2 (a3 + x1).toNatClampNeg x6))]) hc rfl rfl sh_12 hb rfl rfl rfl rfl ?_
            replace h := zws h
            exact h
        · replace h := zwp_f h hx
          refine g_iconst (pc' := 41) (v := (2 : Int32)) hc rfl zki_2 rfl ?_
          replace h := zws h
          exact g_ireturn hc rfl rfl rfl (fun _ => ⟨rfl, rfl⟩) h
set_option maxRecDepth 4000 in
theorem ok_X4_readLight_3_1_7 {p q : Nat} {I : pI} {J : pJ} {Q : pQ} {d : Nat} (hd : 9 ≤ d) (h : zwp (f_X4_readLight (I 12) (I 7 9) (I 3 1) (I 2) (I 1 4) (I 1 5) (I 1 2) (I 1 6) (I 1 3)) (fun w => match w with | (r, o0, o1, o2, o3, o4, o5, o6) => Q (.inl (some (.int r))) (zS p q I [(1, some 3, fun _ => o6), (1, some 4, fun _ => o3), (1, some 5, fun _ => o4), (1, some 6, fun _ => o5), (3, some 1, fun _ => o2), (7, some 9, fun _ => o1), (12, none, o0)] J []))) : pm_call M cost zext d 38 [.ref 3, .ref 1, .ref 7] (pm_st 108 (shp p q) I J) Q := by
  obtain ⟨d, rfl⟩ := zd1 hd rfl
  have hc := pm_call_m (M := M) (cost := cost) zext_m d
  refine z_in (L := [(1, some 3, fun _ => (I 1 3)), (1, some 4, fun _ => (I 1 4)), (1, some 5, fun _ => (I 1 5)), (1, some 6, fun _ => (I 1 6)), (3, some 1, fun _ => (I 3 1)), (7, some 9, fun _ => (I 7 9)), (12, none, (I 12))]) (K := []) (ls := [some (.ref 3), some (.ref 1), some (.ref 7), none]) zmt_38 zco_38 rfl rfl (zid_s (zid_s (zid_s (zid_s (zid_s (zid_s (zid_a zid_n))))))) zid_n ?_
  delta f_X4_readLight at h
  refine g_aload_n (pc' := 1)  hc rfl rfl rfl rfl ?_
  refine z_getI (pc' := 4) (v := (I 7 9)) hc rfl rfl rfl sh_7 rfl rfl rfl ?_
  refine g_if_le (pc' := 7) hc rfl rfl (fun hx => ?_) (fun hx => ?_)
  · replace h := zwp_t h hx
    refine g_aload_n (pc' := 10)  hc rfl rfl rfl rfl ?_
    refine z_virt (as := []) (a := 1) (r := []) hc rfl rfl rfl rfl sh_1 rfl zco_83 rfl rfl rfl ?_
    refine ok_X9_advance_1 (zdp hd rfl) (zwp_mono (zwp_bind h) ?_)
    rintro ⟨o1, o2, o3, o4⟩ h
    refine z_po (pc' := 13) (st' := []) (v := none) (L' := [(1, some 3, fun _ => o4), (1, some 4, fun _ => o1), (1, some 5, fun _ => o2), (1, some 6, fun _ => o3), (3, some 1, fun _ => (I 3 1)), (7, some 9, fun _ => (I 7 9)), (12, none, (I 12))]) (K' := []) zco_83 rfl rfl rfl rfl rfl rfl rfl rfl ?_
    refine g_aload_n (pc' := 14)  hc rfl rfl rfl rfl ?_
    refine g_aload_n (pc' := 15)  hc rfl rfl rfl rfl ?_
    refine g_aload_n (pc' := 16)  hc rfl rfl rfl rfl ?_
    refine z_getR (pc' := 19)  hc rfl rfl rfl sh_7 rfl rfl ?_
    refine g_iconst (pc' := 20) (v := (0 : Int32)) hc rfl zki_0 rfl ?_
    refine g_bipush (pc' := 22) (v := (9 : Int32)) hc rfl zkb_9 rfl ?_
    refine z_virt (as := [.ref 1, .ref 12, .int (0 : Int32), .int (9 : Int32)]) (a := 3) (r := []) hc rfl rfl rfl rfl sh_3 rfl zco_39 rfl rfl rfl ?_
    refine ok_X4_readRow_3_1_12 (zdp hd rfl) (zwp_mono (zwp_bind h) ?_)
    rintro ⟨r11, o5, o6, o7, o8, o9, o10⟩ h
    refine z_po (pc' := 25) (st' := [.int r11]) (v := (some (.int r11))) (L' := [(1, some 3, fun _ => o10), (1, some 4, fun _ => o7), (1, some 5, fun _ => o8), (1, some 6, fun _ => o9), (3, some 1, fun _ => o6), (7, some 9, fun _ => (I 7 9)), (12, none, o5)]) (K' := []) zco_39 rfl rfl rfl rfl rfl rfl rfl rfl ?_
    refine g_istore_n (pc' := 26) (ls1 := [some (.ref 3), some (.ref 1), some (.ref 7), some (.int r11)]) hc rfl (zlt rfl) rfl rfl ?_
    refine g_aload_n (pc' := 27)  hc rfl rfl rfl rfl ?_
    refine g_aload_n (pc' := 28)  hc rfl rfl rfl rfl ?_
    refine z_getI (pc' := 31) (v := o6) hc rfl rfl rfl sh_3 rfl rfl rfl ?_
    refine z_putI (pc' := 34) (L' := [(1, some 3, fun _ => o10), (1, some 4, fun _ => o7), (1, some 5, fun _ => o8), (1, some 6, fun _ => o9), (3, some 1, fun _ => o6), (7, some 9, fun _ => o6), (12, none, o5)]) hc rfl rfl rfl sh_7 rfl zft_3_9 rfl (fun h => Bool.noConfusion h) rfl rfl rfl ?_
    refine g_iload_n (pc' := 35)  hc rfl rfl rfl ?_
    replace h := zws h
    exact g_ireturn hc rfl rfl rfl (fun _ => ⟨rfl, rfl⟩) h
  · replace h := zwp_f h hx
    refine g_iconst (pc' := 8) (v := (5 : Int32)) hc rfl zki_5 rfl ?_
    replace h := zws h
    exact g_ireturn hc rfl rfl rfl (fun _ => ⟨rfl, rfl⟩) h
set_option maxRecDepth 4000 in
theorem ok_X4_readDull_1_7 {p q : Nat} {I : pI} {J : pJ} {Q : pQ} {d : Nat} (hd : 8 ≤ d) (h : zwp (f_X4_readDull (I 7 12) (I 7 11) (I 2) (I 1 4) (I 1 5) (I 1 2) (I 1 6) (I 1 3)) (fun w => match w with | (r, o0, o1, o2, o3, o4, o5) => Q (.inl (some (.int r))) (zS p q I [(1, some 3, fun _ => o5), (1, some 4, fun _ => o2), (1, some 5, fun _ => o3), (1, some 6, fun _ => o4), (7, some 11, fun _ => o1), (7, some 12, fun _ => o0)] J []))) : pm_call M cost zext d 40 [.ref 1, .ref 7] (pm_st 108 (shp p q) I J) Q := by
  obtain ⟨d, rfl⟩ := zd1 hd rfl
  have hc := pm_call_m (M := M) (cost := cost) zext_m d
  refine z_in (L := [(1, some 3, fun _ => (I 1 3)), (1, some 4, fun _ => (I 1 4)), (1, some 5, fun _ => (I 1 5)), (1, some 6, fun _ => (I 1 6)), (7, some 11, fun _ => (I 7 11)), (7, some 12, fun _ => (I 7 12))]) (K := []) (ls := [some (.ref 1), some (.ref 7), none]) zmt_40 zco_40 rfl rfl (zid_s (zid_s (zid_s (zid_s (zid_s (zid_s zid_n)))))) zid_n ?_
  delta f_X4_readDull at h
  refine g_aload_n (pc' := 1)  hc rfl rfl rfl rfl ?_
  refine z_getI (pc' := 4) (v := (I 7 11)) hc rfl rfl rfl sh_7 rfl rfl rfl ?_
  refine g_if_eq (pc' := 7) hc rfl rfl (fun hx => ?_) (fun hx => ?_)
  · replace h := zwp_t h hx
    refine g_aload_n (pc' := 10)  hc rfl rfl rfl rfl ?_
    refine z_virt (as := []) (a := 1) (r := []) hc rfl rfl rfl rfl sh_1 rfl zco_83 rfl rfl rfl ?_
    refine ok_X9_advance_1 (zdp hd rfl) (zwp_mono (zwp_bind h) ?_)
    rintro ⟨o1, o2, o3, o4⟩ h
    refine z_po (pc' := 13) (st' := []) (v := none) (L' := [(1, some 3, fun _ => o4), (1, some 4, fun _ => o1), (1, some 5, fun _ => o2), (1, some 6, fun _ => o3), (7, some 11, fun _ => (I 7 11)), (7, some 12, fun _ => (I 7 12))]) (K' := []) zco_83 rfl rfl rfl rfl rfl rfl rfl rfl ?_
    refine g_aload_n (pc' := 14)  hc rfl rfl rfl rfl ?_
    refine g_iconst (pc' := 15) (v := (0 : Int32)) hc rfl zki_0 rfl ?_
    refine g_bipush (pc' := 17) (v := (9 : Int32)) hc rfl zkb_9 rfl ?_
    refine z_virt (as := [.int (0 : Int32), .int (9 : Int32)]) (a := 1) (r := []) hc rfl rfl rfl rfl sh_1 rfl zco_87 rfl rfl rfl ?_
    refine ok_X9_numberFault_1 (zdp hd rfl) (zwp_mono (zwp_bind h) ?_)
    rintro r5 h
    refine z_po (pc' := 20) (st' := [.int r5]) (v := (some (.int r5))) (L' := [(1, some 3, fun _ => o4), (1, some 4, fun _ => o1), (1, some 5, fun _ => o2), (1, some 6, fun _ => o3), (7, some 11, fun _ => (I 7 11)), (7, some 12, fun _ => (I 7 12))]) (K' := []) zco_87 rfl rfl rfl rfl rfl rfl rfl rfl ?_
    refine g_istore_n (pc' := 21) (ls1 := [some (.ref 1), some (.ref 7), some (.int r5)]) hc rfl (zlt rfl) rfl rfl ?_
    refine g_iload_n (pc' := 22)  hc rfl rfl rfl ?_
    refine g_if_eq (pc' := 25) hc rfl rfl (fun hx => ?_) (fun hx => ?_)
    · replace h := zwp_t h hx
      refine g_aload_n (pc' := 28)  hc rfl rfl rfl rfl ?_
      refine g_iconst (pc' := 29) (v := (1 : Int32)) hc rfl zki_1 rfl ?_
      refine z_putI (pc' := 32) (L' := [(1, some 3, fun _ => o4), (1, some 4, fun _ => o1), (1, some 5, fun _ => o2), (1, some 6, fun _ => o3), (7, some 11, fun _ => (1 : Int32)), (7, some 12, fun _ => (I 7 12))]) hc rfl rfl rfl sh_7 rfl zft_3_11 rfl (fun h => Bool.noConfusion h) rfl rfl rfl ?_
      refine g_aload_n (pc' := 33)  hc rfl rfl rfl rfl ?_
      refine g_aload_n (pc' := 34)  hc rfl rfl rfl rfl ?_
      refine z_getI (pc' := 37) (v := o3) hc rfl rfl rfl sh_1 rfl rfl rfl ?_
      refine z_putI (pc' := 40) (L' := [(1, some 3, fun _ => o4), (1, some 4, fun _ => o1), (1, some 5, fun _ => o2), (1, some 6, fun _ => o3), (7, some 11, fun _ => (1 : Int32)), (7, some 12, fun _ => o3)]) hc rfl rfl rfl sh_7 rfl zft_3_12 rfl (fun h => Bool.noConfusion h) rfl rfl rfl ?_
      refine g_aload_n (pc' := 41)  hc rfl rfl rfl rfl ?_
      refine z_virt (as := []) (a := 1) (r := []) hc rfl rfl rfl rfl sh_1 rfl zco_83 rfl rfl rfl ?_
      refine ok_X9_advance_1 (zdp hd rfl) (zwp_mono (zwp_bind h) ?_)
      rintro ⟨o6, o7, o8, o9⟩ h
      refine z_po (pc' := 44) (st' := []) (v := none) (L' := [(1, some 3, fun _ => o9), (1, some 4, fun _ => o6), (1, some 5, fun _ => o7), (1, some 6, fun _ => o8), (7, some 11, fun _ => (1 : Int32)), (7, some 12, fun _ => o3)]) (K' := []) zco_83 rfl rfl rfl rfl rfl rfl rfl rfl ?_
      refine g_iconst (pc' := 45) (v := (0 : Int32)) hc rfl zki_0 rfl ?_
      replace h := zws h
      exact g_ireturn hc rfl rfl rfl (fun _ => ⟨rfl, rfl⟩) h
    · replace h := zwp_f h hx
      refine g_iload_n (pc' := 26)  hc rfl rfl rfl ?_
      replace h := zws h
      exact g_ireturn hc rfl rfl rfl (fun _ => ⟨rfl, rfl⟩) h
  · replace h := zwp_f h hx
    refine g_iconst (pc' := 8) (v := (5 : Int32)) hc rfl zki_5 rfl ?_
    replace h := zws h
    exact g_ireturn hc rfl rfl rfl (fun _ => ⟨rfl, rfl⟩) h
set_option maxRecDepth 4000 in
theorem ok_X5_add_13 {p q : Nat} {I : pI} {J : pJ} {a1 : Int32} {Q : pQ} {d : Nat} (hd : 1 ≤ d) (h : zwp (f_X5_add a1 (I 15) (I 13 2)) (fun w => match w with | (o0, o1) => Q (.inl none) (zS p q I [(13, some 2, fun _ => o1), (15, none, o0)] J []))) : pm_call M cost zext d 44 [.ref 13, .int a1] (pm_st 108 (shp p q) I J) Q := by
  obtain ⟨d, rfl⟩ := zd1 hd rfl
  have hc := pm_call_m (M := M) (cost := cost) zext_m d
  refine z_in (L := [(13, some 2, fun _ => (I 13 2)), (15, none, (I 15))]) (K := []) (ls := [some (.ref 13), some (.int a1)]) zmt_44 zco_44 rfl rfl (zid_s (zid_a zid_n)) zid_n ?_
  delta f_X5_add at h
  refine g_aload_n (pc' := 1)  hc rfl rfl rfl rfl ?_
  refine z_getI (pc' := 4) (v := (I 13 2)) hc rfl rfl rfl sh_13 rfl rfl rfl ?_
  refine g_sipush (pc' := 7) (v := (700 : Int32)) hc rfl zks_700 rfl ?_
  refine g_icmp_ge (pc' := 10) hc rfl rfl (fun hx => ?_) (fun hx => ?_)
  · replace h := zwp_t h hx
    replace h := zws h
    exact g_return hc rfl rfl (fun _ => ⟨rfl, rfl⟩) h
  · replace h := zwp_f h hx
    refine g_aload_n (pc' := 11)  hc rfl rfl rfl rfl ?_
    refine z_getR (pc' := 14)  hc rfl rfl rfl sh_13 rfl rfl ?_
    refine g_aload_n (pc' := 15)  hc rfl rfl rfl rfl ?_
    refine z_getI (pc' := 18) (v := (I 13 2)) hc rfl rfl rfl sh_13 rfl rfl rfl ?_
    refine g_iload_n (pc' := 19)  hc rfl rfl rfl ?_
    have hb := (zwp_bnd h).1
    replace h := (zwp_bnd h).2
    refine z_iastore (pc' := 20) (g := (I 15)) (L' := [(13, some 2, fun _ => (I 13 2)), (15, none, (upd ((I 15)) ((I 13 2)).toNatClampNeg a1))]) hc rfl rfl sh_15 hb rfl rfl rfl rfl ?_
    refine g_aload_n (pc' := 21)  hc rfl rfl rfl rfl ?_
    refine g_dup (pc' := 22)  hc rfl rfl rfl ?_
    refine z_getI (pc' := 25) (v := (I 13 2)) hc rfl rfl rfl sh_13 rfl rfl rfl ?_
    refine g_iconst (pc' := 26) (v := (1 : Int32)) hc rfl zki_1 rfl ?_
    refine g_iadd (pc' := 27)  hc rfl rfl ?_
    refine z_putI (pc' := 30) (L' := [(13, some 2, fun _ => (((I 13 2)) + (1 : Int32))), (15, none, (upd ((I 15)) ((I 13 2)).toNatClampNeg a1))]) hc rfl rfl rfl sh_13 rfl zft_5_2 rfl (fun h => Bool.noConfusion h) rfl rfl rfl ?_
    replace h := zws h
    exact g_return hc rfl rfl (fun _ => ⟨rfl, rfl⟩) h
set_option maxRecDepth 4000 in
theorem ok_X6_readNumber_4_1_13 {p q : Nat} {I : pI} {J : pJ} {Q : pQ} {d : Nat} (hd : 2 ≤ d) (h : zwp (f_X6_readNumber (I 4 5) (I 15) (I 13 2) (I 1 4) (I 1 5) (I 1 6) (I 1 3)) (fun w => match w with | (r, o0, o1, o2) => Q (.inl (some (.int r))) (zS p q I [(4, some 5, fun _ => o0), (13, some 2, fun _ => o2), (15, none, o1)] J []))) : pm_call M cost zext d 52 [.ref 4, .ref 1, .ref 13] (pm_st 108 (shp p q) I J) Q := by
  obtain ⟨d, rfl⟩ := zd1 hd rfl
  have hc := pm_call_m (M := M) (cost := cost) zext_m d
  refine z_in (L := [(4, some 5, fun _ => (I 4 5)), (13, some 2, fun _ => (I 13 2)), (15, none, (I 15))]) (K := []) (ls := [some (.ref 4), some (.ref 1), some (.ref 13), none]) zmt_52 zco_52 rfl rfl (zid_s (zid_s (zid_a zid_n))) zid_n ?_
  delta f_X6_readNumber at h
  refine g_aload_n (pc' := 1)  hc rfl rfl rfl rfl ?_
  refine g_iconst (pc' := 2) (v := (0 : Int32)) hc rfl zki_0 rfl ?_
  refine g_sipush (pc' := 5) (v := (9999 : Int32)) hc rfl zks_9999 rfl ?_
  refine z_virt (as := [.int (0 : Int32), .int (9999 : Int32)]) (a := 1) (r := []) hc rfl rfl rfl rfl sh_1 rfl zco_87 rfl rfl rfl ?_
  refine ok_X9_numberFault_1 (zdp hd rfl) (zwp_mono (zwp_bind h) ?_)
  rintro r1 h
  refine z_po (pc' := 8) (st' := [.int r1]) (v := (some (.int r1))) (L' := [(4, some 5, fun _ => (I 4 5)), (13, some 2, fun _ => (I 13 2)), (15, none, (I 15))]) (K' := []) zco_87 rfl rfl rfl rfl rfl rfl rfl rfl ?_
  refine g_istore_n (pc' := 9) (ls1 := [some (.ref 4), some (.ref 1), some (.ref 13), some (.int r1)]) hc rfl (zlt rfl) rfl rfl ?_
  refine g_iload_n (pc' := 10)  hc rfl rfl rfl ?_
  refine g_if_eq (pc' := 13) hc rfl rfl (fun hx => ?_) (fun hx => ?_)
  · replace h := zwp_t h hx
    refine g_aload_n (pc' := 16)  hc rfl rfl rfl rfl ?_
    refine g_aload_n (pc' := 17)  hc rfl rfl rfl rfl ?_
    refine z_getI (pc' := 20) (v := (I 1 6)) hc rfl rfl rfl sh_1 rfl rfl rfl ?_
    refine z_virt (as := [.int (I 1 6)]) (a := 13) (r := []) hc rfl rfl rfl rfl sh_13 rfl zco_44 rfl rfl rfl ?_
    refine ok_X5_add_13 (zdp hd rfl) (zwp_mono (zwp_bind h) ?_)
    rintro ⟨o2, o3⟩ h
    refine z_po (pc' := 23) (st' := []) (v := none) (L' := [(4, some 5, fun _ => (I 4 5)), (13, some 2, fun _ => o3), (15, none, o2)]) (K' := []) zco_44 rfl rfl rfl rfl rfl rfl rfl rfl ?_
    refine g_aload_n (pc' := 24)  hc rfl rfl rfl rfl ?_
    refine g_iconst (pc' := 25) (v := (0 : Int32)) hc rfl zki_0 rfl ?_
    refine z_putI (pc' := 28) (L' := [(4, some 5, fun _ => (0 : Int32)), (13, some 2, fun _ => o3), (15, none, o2)]) hc rfl rfl rfl sh_4 rfl zft_6_5 rfl (fun h => Bool.noConfusion h) rfl rfl rfl ?_
    refine g_iconst (pc' := 29) (v := (0 : Int32)) hc rfl zki_0 rfl ?_
    replace h := zws h
    exact g_ireturn hc rfl rfl rfl (fun _ => ⟨rfl, rfl⟩) h
  · replace h := zwp_f h hx
    refine g_iload_n (pc' := 14)  hc rfl rfl rfl ?_
    replace h := zws h
    exact g_ireturn hc rfl rfl rfl (fun _ => ⟨rfl, rfl⟩) h
set_option maxRecDepth 4000 in
theorem ok_X6_readWord_4_1_13 {p q : Nat} {I : pI} {J : pJ} {a3 : Int32} {Q : pQ} {d : Nat} (hd : 8 ≤ d) (h : zwp (f_X6_readWord a3 (I 4 4) (I 4 3) (I 4 5) (I 15) (I 13 2) (I 2) (I 1 4) (I 1 5) (I 1 3) (I 5) (I 4 1)) (fun w => match w with | (r, o0, o1, o2, o3, o4, o5) => Q (.inl (some (.int r))) (zS p q I [(4, some 1, fun _ => o5), (4, some 3, fun _ => o0), (4, some 5, fun _ => o1), (5, none, o4), (13, some 2, fun _ => o3), (15, none, o2)] J []))) : pm_call M cost zext d 53 [.ref 4, .ref 1, .ref 13, .int a3] (pm_st 108 (shp p q) I J) Q := by
  obtain ⟨d, rfl⟩ := zd1 hd rfl
  have hc := pm_call_m (M := M) (cost := cost) zext_m d
  refine z_in (L := [(4, some 1, fun _ => (I 4 1)), (4, some 3, fun _ => (I 4 3)), (4, some 5, fun _ => (I 4 5)), (5, none, (I 5)), (13, some 2, fun _ => (I 13 2)), (15, none, (I 15))]) (K := []) (ls := [some (.ref 4), some (.ref 1), some (.ref 13), some (.int a3)]) zmt_53 zco_53 rfl rfl (zid_s (zid_s (zid_s (zid_a (zid_s (zid_a zid_n)))))) zid_n ?_
  delta f_X6_readWord at h
  refine g_aload_n (pc' := 1)  hc rfl rfl rfl rfl ?_
  refine z_getI (pc' := 4) (v := (I 4 4)) hc rfl rfl rfl sh_4 rfl rfl rfl ?_
  refine g_if_eq (pc' := 7) hc rfl rfl (fun hx => ?_) (fun hx => ?_)
  · replace h := zwp_t h hx
    refine g_iload_n (pc' := 46)  hc rfl rfl rfl ?_
    refine g_iconst (pc' := 47) (v := (-1 : Int32)) hc rfl zki_m1 rfl ?_
    refine g_icmp_ne (pc' := 50) hc rfl rfl (fun hx => ?_) (fun hx => ?_)
    · replace h := zwp_f h hx
      refine g_aload_n (pc' := 53)  hc rfl rfl rfl rfl ?_
      refine g_iconst (pc' := 54) (v := (-1 : Int32)) hc rfl zki_m1 rfl ?_
      refine g_iload_n (pc' := 55)  hc rfl rfl rfl ?_
      refine g_isub (pc' := 56)  hc rfl rfl ?_
      refine z_virt (as := [.int ((-1 : Int32) - a3)]) (a := 13) (r := []) hc rfl rfl rfl rfl sh_13 rfl zco_44 rfl rfl rfl ?_
      refine ok_X5_add_13 (zdp hd rfl) (zwp_mono (zwp_bind h) ?_)
      rintro ⟨o1, o2⟩ h
      refine z_po (pc' := 59) (st' := []) (v := none) (L' := [(4, some 1, fun _ => (I 4 1)), (4, some 3, fun _ => (I 4 3)), (4, some 5, fun _ => (I 4 5)), (5, none, (I 5)), (13, some 2, fun _ => o2), (15, none, o1)]) (K' := []) zco_44 rfl rfl rfl rfl rfl rfl rfl rfl ?_
      refine g_aload_n (pc' := 60)  hc rfl rfl rfl rfl ?_
      refine g_iconst (pc' := 61) (v := (0 : Int32)) hc rfl zki_0 rfl ?_
      refine z_putI (pc' := 64) (L' := [(4, some 1, fun _ => (I 4 1)), (4, some 3, fun _ => (I 4 3)), (4, some 5, fun _ => (0 : Int32)), (5, none, (I 5)), (13, some 2, fun _ => o2), (15, none, o1)]) hc rfl rfl rfl sh_4 rfl zft_6_5 rfl (fun h => Bool.noConfusion h) rfl rfl rfl ?_
      refine g_iconst (pc' := 65) (v := (0 : Int32)) hc rfl zki_0 rfl ?_
      replace h := zws h
      exact g_ireturn hc rfl rfl rfl (fun _ => ⟨rfl, rfl⟩) h
    · replace h := zwp_t h hx
      refine g_iconst (pc' := 51) (v := (3 : Int32)) hc rfl zki_3 rfl ?_
      replace h := zws h
      exact g_ireturn hc rfl rfl rfl (fun _ => ⟨rfl, rfl⟩) h
  · replace h := zwp_f h hx
    refine g_aload_n (pc' := 8)  hc rfl rfl rfl rfl ?_
    refine g_ldc_t (pc' := 10)  hc rfl rfl rfl ?_
    refine z_virt (as := [.retAddr 14]) (a := 1) (r := []) hc rfl rfl rfl rfl sh_1 rfl zco_90 rfl rfl rfl ?_
    refine ok_X9_isWord_1 (zdp hd rfl) (zlt rfl) (zwp_mono (zwp_bind h) ?_)
    rintro r3 h
    refine z_po (pc' := 13) (st' := [.int r3]) (v := (some (.int r3))) (L' := [(4, some 1, fun _ => (I 4 1)), (4, some 3, fun _ => (I 4 3)), (4, some 5, fun _ => (I 4 5)), (5, none, (I 5)), (13, some 2, fun _ => (I 13 2)), (15, none, (I 15))]) (K' := []) zco_90 rfl rfl rfl rfl rfl rfl rfl rfl ?_
    refine g_if_eq (pc' := 16) hc rfl rfl (fun hx => ?_) (fun hx => ?_)
    · replace h := zwp_t h hx
      refine g_iload_n (pc' := 46)  hc rfl rfl rfl ?_
      refine g_iconst (pc' := 47) (v := (-1 : Int32)) hc rfl zki_m1 rfl ?_
      refine g_icmp_ne (pc' := 50) hc rfl rfl (fun hx => ?_) (fun hx => ?_)
      · replace h := zwp_f h hx
        refine g_aload_n (pc' := 53)  hc rfl rfl rfl rfl ?_
        refine g_iconst (pc' := 54) (v := (-1 : Int32)) hc rfl zki_m1 rfl ?_
        refine g_iload_n (pc' := 55)  hc rfl rfl rfl ?_
        refine g_isub (pc' := 56)  hc rfl rfl ?_
        refine z_virt (as := [.int ((-1 : Int32) - a3)]) (a := 13) (r := []) hc rfl rfl rfl rfl sh_13 rfl zco_44 rfl rfl rfl ?_
        refine ok_X5_add_13 (zdp hd rfl) (zwp_mono (zwp_bind h) ?_)
        rintro ⟨o4, o5⟩ h
        refine z_po (pc' := 59) (st' := []) (v := none) (L' := [(4, some 1, fun _ => (I 4 1)), (4, some 3, fun _ => (I 4 3)), (4, some 5, fun _ => (I 4 5)), (5, none, (I 5)), (13, some 2, fun _ => o5), (15, none, o4)]) (K' := []) zco_44 rfl rfl rfl rfl rfl rfl rfl rfl ?_
        refine g_aload_n (pc' := 60)  hc rfl rfl rfl rfl ?_
        refine g_iconst (pc' := 61) (v := (0 : Int32)) hc rfl zki_0 rfl ?_
        refine z_putI (pc' := 64) (L' := [(4, some 1, fun _ => (I 4 1)), (4, some 3, fun _ => (I 4 3)), (4, some 5, fun _ => (0 : Int32)), (5, none, (I 5)), (13, some 2, fun _ => o5), (15, none, o4)]) hc rfl rfl rfl sh_4 rfl zft_6_5 rfl (fun h => Bool.noConfusion h) rfl rfl rfl ?_
        refine g_iconst (pc' := 65) (v := (0 : Int32)) hc rfl zki_0 rfl ?_
        replace h := zws h
        exact g_ireturn hc rfl rfl rfl (fun _ => ⟨rfl, rfl⟩) h
      · replace h := zwp_t h hx
        refine g_iconst (pc' := 51) (v := (3 : Int32)) hc rfl zki_3 rfl ?_
        replace h := zws h
        exact g_ireturn hc rfl rfl rfl (fun _ => ⟨rfl, rfl⟩) h
    · replace h := zwp_f h hx
      refine g_aload_n (pc' := 17)  hc rfl rfl rfl rfl ?_
      refine z_getI (pc' := 20) (v := (I 4 3)) hc rfl rfl rfl sh_4 rfl rfl rfl ?_
      refine g_bipush (pc' := 22) (v := (6 : Int32)) hc rfl zkb_6 rfl ?_
      refine g_icmp_lt (pc' := 25) hc rfl rfl (fun hx => ?_) (fun hx => ?_)
      · replace h := zwp_t h hx
        refine g_aload_n (pc' := 28)  hc rfl rfl rfl rfl ?_
        refine g_bipush (pc' := 30) (v := (-13 : Int32)) hc rfl zkb_m13 rfl ?_
        refine z_virt (as := [.int (-13 : Int32)]) (a := 4) (r := []) hc rfl rfl rfl rfl sh_4 rfl zco_58 rfl rfl rfl ?_
        refine ok_X6_push_4 (zdp hd rfl) (zwp_mono (zwp_bind h) ?_)
        rintro ⟨o6, o7⟩ h
        refine z_po (pc' := 33) (st' := []) (v := none) (L' := [(4, some 1, fun _ => o7), (4, some 3, fun _ => (I 4 3)), (4, some 5, fun _ => (I 4 5)), (5, none, o6), (13, some 2, fun _ => (I 13 2)), (15, none, (I 15))]) (K' := []) zco_58 rfl rfl rfl rfl rfl rfl rfl rfl ?_
        refine g_aload_n (pc' := 34)  hc rfl rfl rfl rfl ?_
        refine g_dup (pc' := 35)  hc rfl rfl rfl ?_
        refine z_getI (pc' := 38) (v := (I 4 3)) hc rfl rfl rfl sh_4 rfl rfl rfl ?_
        refine g_iconst (pc' := 39) (v := (1 : Int32)) hc rfl zki_1 rfl ?_
        refine g_iadd (pc' := 40)  hc rfl rfl ?_
        refine z_putI (pc' := 43) (L' := [(4, some 1, fun _ => o7), (4, some 3, fun _ => (((I 4 3)) + (1 : Int32))), (4, some 5, fun _ => (I 4 5)), (5, none, o6), (13, some 2, fun _ => (I 13 2)), (15, none, (I 15))]) hc rfl rfl rfl sh_4 rfl zft_6_3 rfl (fun h => Bool.noConfusion h) rfl rfl rfl ?_
        refine g_iconst (pc' := 44) (v := (0 : Int32)) hc rfl zki_0 rfl ?_
        replace h := zws h
        exact g_ireturn hc rfl rfl rfl (fun _ => ⟨rfl, rfl⟩) h
      · replace h := zwp_f h hx
        refine g_iconst (pc' := 26) (v := (2 : Int32)) hc rfl zki_2 rfl ?_
        replace h := zws h
        exact g_ireturn hc rfl rfl rfl (fun _ => ⟨rfl, rfl⟩) h
set_option maxRecDepth 4000 in
theorem ok_X6_readPart_4_1_13 {p q : Nat} {I : pI} {J : pJ} {a3 : Int32} {Q : pQ} {d : Nat} (hd : 9 ≤ d) (h : zwp (f_X6_readPart a3 (I 4 4) (I 4 2) (I 4 3) (I 4 5) (I 15) (I 13 2) (I 2) (I 1 4) (I 1 5) (I 1 6) (I 1 3) (I 5) (I 4 1)) (fun w => match w with | (r, o0, o1, o2, o3, o4, o5, o6, o7) => Q (.inl (some (.int r))) (zS p q I [(4, some 1, fun _ => o7), (4, some 2, fun _ => o1), (4, some 3, fun _ => o2), (4, some 4, fun _ => o0), (4, some 5, fun _ => o3), (5, none, o6), (13, some 2, fun _ => o5), (15, none, o4)] J []))) : pm_call M cost zext d 51 [.ref 4, .ref 1, .ref 13, .int a3] (pm_st 108 (shp p q) I J) Q := by
  obtain ⟨d, rfl⟩ := zd1 hd rfl
  have hc := pm_call_m (M := M) (cost := cost) zext_m d
  refine z_in (L := [(4, some 1, fun _ => (I 4 1)), (4, some 2, fun _ => (I 4 2)), (4, some 3, fun _ => (I 4 3)), (4, some 4, fun _ => (I 4 4)), (4, some 5, fun _ => (I 4 5)), (5, none, (I 5)), (13, some 2, fun _ => (I 13 2)), (15, none, (I 15))]) (K := []) (ls := [some (.ref 4), some (.ref 1), some (.ref 13), some (.int a3), none]) zmt_51 zco_51 rfl rfl (zid_s (zid_s (zid_s (zid_s (zid_s (zid_a (zid_s (zid_a zid_n)))))))) zid_n ?_
  delta f_X6_readPart at h
  refine g_aload_n (pc' := 1)  hc rfl rfl rfl rfl ?_
  refine g_bipush (pc' := 3) (v := (40 : Int32)) hc rfl zkb_40 rfl ?_
  refine z_virt (as := [.int (40 : Int32)]) (a := 1) (r := []) hc rfl rfl rfl rfl sh_1 rfl zco_88 rfl rfl rfl ?_
  refine ok_X9_isSign_1 (zdp hd rfl) (zwp_mono (zwp_bind h) ?_)
  rintro r1 h
  refine z_po (pc' := 6) (st' := [.int r1]) (v := (some (.int r1))) (L' := [(4, some 1, fun _ => (I 4 1)), (4, some 2, fun _ => (I 4 2)), (4, some 3, fun _ => (I 4 3)), (4, some 4, fun _ => (I 4 4)), (4, some 5, fun _ => (I 4 5)), (5, none, (I 5)), (13, some 2, fun _ => (I 13 2)), (15, none, (I 15))]) (K' := []) zco_88 rfl rfl rfl rfl rfl rfl rfl rfl ?_
  refine g_istore (pc' := 8) (ls1 := [some (.ref 4), some (.ref 1), some (.ref 13), some (.int a3), some (.int r1)]) hc rfl (zlt rfl) rfl rfl ?_
  refine g_iload (pc' := 10)  hc rfl rfl rfl ?_
  refine g_if_ne (pc' := 13) hc rfl rfl (fun hx => ?_) (fun hx => ?_)
  · replace h := zwp_f h hx
    refine g_aload_n (pc' := 32)  hc rfl rfl rfl rfl ?_
    refine z_getI (pc' := 35) (v := (I 4 2)) hc rfl rfl rfl sh_4 rfl rfl rfl ?_
    refine g_bipush (pc' := 37) (v := (6 : Int32)) hc rfl zkb_6 rfl ?_
    refine g_icmp_lt (pc' := 40) hc rfl rfl (fun hx => ?_) (fun hx => ?_)
    · replace h := zwp_t h hx
      refine g_iload (pc' := 44)  hc rfl rfl rfl ?_
      refine g_if_eq (pc' := 47) hc rfl rfl (fun hx => ?_) (fun hx => ?_)
      · replace h := zwp_t h hx
        refine g_aload_n (pc' := 71)  hc rfl rfl rfl rfl ?_
        refine z_getI (pc' := 74) (v := (I 1 5)) hc rfl rfl rfl sh_1 rfl rfl rfl ?_
        refine g_iconst (pc' := 75) (v := (2 : Int32)) hc rfl zki_2 rfl ?_
        refine g_icmp_ne (pc' := 78) hc rfl rfl (fun hx => ?_) (fun hx => ?_)
        · replace h := zwp_f h hx
          refine g_aload_n (pc' := 88)  hc rfl rfl rfl rfl ?_
          refine g_aload_n (pc' := 89)  hc rfl rfl rfl rfl ?_
          refine g_aload_n (pc' := 90)  hc rfl rfl rfl rfl ?_
          refine g_aload_n (pc' := 91)  hc rfl rfl rfl rfl ?_
          refine g_iload_n (pc' := 92)  hc rfl rfl rfl ?_
          refine z_stat (as := [.ref 1, .int a3]) (r := [.ref 13, .ref 1, .ref 4]) hc rfl rfl rfl rfl zco_54 rfl rfl rfl ?_
          refine ok_X6_valueOf_1 (zdp hd rfl) (zwp_mono (zwp_bind h) ?_)
          rintro r2 h
          refine z_po (pc' := 95) (st' := [.int r2, .ref 13, .ref 1, .ref 4]) (v := (some (.int r2))) (L' := [(4, some 1, fun _ => (I 4 1)), (4, some 2, fun _ => (I 4 2)), (4, some 3, fun _ => (I 4 3)), (4, some 4, fun _ => (I 4 4)), (4, some 5, fun _ => (I 4 5)), (5, none, (I 5)), (13, some 2, fun _ => (I 13 2)), (15, none, (I 15))]) (K' := []) zco_54 rfl rfl rfl rfl rfl rfl rfl rfl ?_
          refine z_virt (as := [.ref 1, .ref 13, .int r2]) (a := 4) (r := []) hc rfl rfl rfl rfl sh_4 rfl zco_53 rfl rfl rfl ?_
          refine ok_X6_readWord_4_1_13 (zdp hd rfl) (zwp_mono (zwp_bind h) ?_)
          rintro ⟨r9, o3, o4, o5, o6, o7, o8⟩ h
          refine z_po (pc' := 98) (st' := [.int r9]) (v := (some (.int r9))) (L' := [(4, some 1, fun _ => o8), (4, some 2, fun _ => (I 4 2)), (4, some 3, fun _ => o3), (4, some 4, fun _ => (I 4 4)), (4, some 5, fun _ => o4), (5, none, o7), (13, some 2, fun _ => o6), (15, none, o5)]) (K' := []) zco_53 rfl rfl rfl rfl rfl rfl rfl rfl ?_
          replace h := zws h
          exact g_ireturn hc rfl rfl rfl (fun _ => ⟨rfl, rfl⟩) h
        · replace h := zwp_t h hx
          refine g_aload_n (pc' := 79)  hc rfl rfl rfl rfl ?_
          refine g_aload_n (pc' := 80)  hc rfl rfl rfl rfl ?_
          refine g_aload_n (pc' := 81)  hc rfl rfl rfl rfl ?_
          refine z_virt (as := [.ref 1, .ref 13]) (a := 4) (r := []) hc rfl rfl rfl rfl sh_4 rfl zco_52 rfl rfl rfl ?_
          refine ok_X6_readNumber_4_1_13 (zdp hd rfl) (zwp_mono (zwp_bind h) ?_)
          rintro ⟨r13, o10, o11, o12⟩ h
          refine z_po (pc' := 84) (st' := [.int r13]) (v := (some (.int r13))) (L' := [(4, some 1, fun _ => (I 4 1)), (4, some 2, fun _ => (I 4 2)), (4, some 3, fun _ => (I 4 3)), (4, some 4, fun _ => (I 4 4)), (4, some 5, fun _ => o10), (5, none, (I 5)), (13, some 2, fun _ => o12), (15, none, o11)]) (K' := []) zco_52 rfl rfl rfl rfl rfl rfl rfl rfl ?_
          refine g_goto hc rfl ?_
          replace h := zws h
          exact g_ireturn hc rfl rfl rfl (fun _ => ⟨rfl, rfl⟩) h
      · replace h := zwp_f h hx
        refine g_aload_n (pc' := 48)  hc rfl rfl rfl rfl ?_
        refine g_bipush (pc' := 50) (v := (-20 : Int32)) hc rfl zkb_m20 rfl ?_
        refine z_virt (as := [.int (-20 : Int32)]) (a := 4) (r := []) hc rfl rfl rfl rfl sh_4 rfl zco_58 rfl rfl rfl ?_
        refine ok_X6_push_4 (zdp hd rfl) (zwp_mono (zwp_bind h) ?_)
        rintro ⟨o14, o15⟩ h
        refine z_po (pc' := 53) (st' := []) (v := none) (L' := [(4, some 1, fun _ => o15), (4, some 2, fun _ => (I 4 2)), (4, some 3, fun _ => (I 4 3)), (4, some 4, fun _ => (I 4 4)), (4, some 5, fun _ => (I 4 5)), (5, none, o14), (13, some 2, fun _ => (I 13 2)), (15, none, (I 15))]) (K' := []) zco_58 rfl rfl rfl rfl rfl rfl rfl rfl ?_
        refine g_aload_n (pc' := 54)  hc rfl rfl rfl rfl ?_
        refine g_dup (pc' := 55)  hc rfl rfl rfl ?_
        refine z_getI (pc' := 58) (v := (I 4 2)) hc rfl rfl rfl sh_4 rfl rfl rfl ?_
        refine g_iconst (pc' := 59) (v := (1 : Int32)) hc rfl zki_1 rfl ?_
        refine g_iadd (pc' := 60)  hc rfl rfl ?_
        refine z_putI (pc' := 63) (L' := [(4, some 1, fun _ => o15), (4, some 2, fun _ => (((I 4 2)) + (1 : Int32))), (4, some 3, fun _ => (I 4 3)), (4, some 4, fun _ => (I 4 4)), (4, some 5, fun _ => (I 4 5)), (5, none, o14), (13, some 2, fun _ => (I 13 2)), (15, none, (I 15))]) hc rfl rfl rfl sh_4 rfl zft_6_2 rfl (fun h => Bool.noConfusion h) rfl rfl rfl ?_
        refine g_aload_n (pc' := 64)  hc rfl rfl rfl rfl ?_
        refine g_iconst (pc' := 65) (v := (1 : Int32)) hc rfl zki_1 rfl ?_
        refine z_virt (as := [.int (1 : Int32)]) (a := 4) (r := []) hc rfl rfl rfl rfl sh_4 rfl zco_50 rfl rfl rfl ?_
        refine ok_X6_beginPart_4 (zdp hd rfl) (zwp_mono (zwp_bind h) ?_)
        rintro ⟨o16, o17, o18⟩ h
        refine z_po (pc' := 68) (st' := []) (v := none) (L' := [(4, some 1, fun _ => o15), (4, some 2, fun _ => (((I 4 2)) + (1 : Int32))), (4, some 3, fun _ => o17), (4, some 4, fun _ => o16), (4, some 5, fun _ => o18), (5, none, o14), (13, some 2, fun _ => (I 13 2)), (15, none, (I 15))]) (K' := []) zco_50 rfl rfl rfl rfl rfl rfl rfl rfl ?_
        refine g_iconst (pc' := 69) (v := (0 : Int32)) hc rfl zki_0 rfl ?_
        replace h := zws h
        exact g_ireturn hc rfl rfl rfl (fun _ => ⟨rfl, rfl⟩) h
    · replace h := zwp_f h hx
      refine g_iconst (pc' := 41) (v := (2 : Int32)) hc rfl zki_2 rfl ?_
      replace h := zws h
      exact g_ireturn hc rfl rfl rfl (fun _ => ⟨rfl, rfl⟩) h
  · replace h := zwp_t h hx
    refine g_aload_n (pc' := 14)  hc rfl rfl rfl rfl ?_
    refine z_getI (pc' := 17) (v := (I 1 5)) hc rfl rfl rfl sh_1 rfl rfl rfl ?_
    refine g_iconst (pc' := 18) (v := (2 : Int32)) hc rfl zki_2 rfl ?_
    refine g_icmp_eq (pc' := 21) hc rfl rfl (fun hx => ?_) (fun hx => ?_)
    · replace h := zwp_t h hx
      refine g_aload_n (pc' := 32)  hc rfl rfl rfl rfl ?_
      refine z_getI (pc' := 35) (v := (I 4 2)) hc rfl rfl rfl sh_4 rfl rfl rfl ?_
      refine g_bipush (pc' := 37) (v := (6 : Int32)) hc rfl zkb_6 rfl ?_
      refine g_icmp_lt (pc' := 40) hc rfl rfl (fun hx => ?_) (fun hx => ?_)
      · replace h := zwp_t h hx
        refine g_iload (pc' := 44)  hc rfl rfl rfl ?_
        refine g_if_eq (pc' := 47) hc rfl rfl (fun hx => ?_) (fun hx => ?_)
        · replace h := zwp_t h hx
          refine g_aload_n (pc' := 71)  hc rfl rfl rfl rfl ?_
          refine z_getI (pc' := 74) (v := (I 1 5)) hc rfl rfl rfl sh_1 rfl rfl rfl ?_
          refine g_iconst (pc' := 75) (v := (2 : Int32)) hc rfl zki_2 rfl ?_
          refine g_icmp_ne (pc' := 78) hc rfl rfl (fun hx => ?_) (fun hx => ?_)
          · replace h := zwp_f h hx
            refine g_aload_n (pc' := 88)  hc rfl rfl rfl rfl ?_
            refine g_aload_n (pc' := 89)  hc rfl rfl rfl rfl ?_
            refine g_aload_n (pc' := 90)  hc rfl rfl rfl rfl ?_
            refine g_aload_n (pc' := 91)  hc rfl rfl rfl rfl ?_
            refine g_iload_n (pc' := 92)  hc rfl rfl rfl ?_
            refine z_stat (as := [.ref 1, .int a3]) (r := [.ref 13, .ref 1, .ref 4]) hc rfl rfl rfl rfl zco_54 rfl rfl rfl ?_
            refine ok_X6_valueOf_1 (zdp hd rfl) (zwp_mono (zwp_bind h) ?_)
            rintro r19 h
            refine z_po (pc' := 95) (st' := [.int r19, .ref 13, .ref 1, .ref 4]) (v := (some (.int r19))) (L' := [(4, some 1, fun _ => (I 4 1)), (4, some 2, fun _ => (I 4 2)), (4, some 3, fun _ => (I 4 3)), (4, some 4, fun _ => (I 4 4)), (4, some 5, fun _ => (I 4 5)), (5, none, (I 5)), (13, some 2, fun _ => (I 13 2)), (15, none, (I 15))]) (K' := []) zco_54 rfl rfl rfl rfl rfl rfl rfl rfl ?_
            refine z_virt (as := [.ref 1, .ref 13, .int r19]) (a := 4) (r := []) hc rfl rfl rfl rfl sh_4 rfl zco_53 rfl rfl rfl ?_
            refine ok_X6_readWord_4_1_13 (zdp hd rfl) (zwp_mono (zwp_bind h) ?_)
            rintro ⟨r26, o20, o21, o22, o23, o24, o25⟩ h
            refine z_po (pc' := 98) (st' := [.int r26]) (v := (some (.int r26))) (L' := [(4, some 1, fun _ => o25), (4, some 2, fun _ => (I 4 2)), (4, some 3, fun _ => o20), (4, some 4, fun _ => (I 4 4)), (4, some 5, fun _ => o21), (5, none, o24), (13, some 2, fun _ => o23), (15, none, o22)]) (K' := []) zco_53 rfl rfl rfl rfl rfl rfl rfl rfl ?_
            replace h := zws h
            exact g_ireturn hc rfl rfl rfl (fun _ => ⟨rfl, rfl⟩) h
          · replace h := zwp_t h hx
            refine g_aload_n (pc' := 79)  hc rfl rfl rfl rfl ?_
            refine g_aload_n (pc' := 80)  hc rfl rfl rfl rfl ?_
            refine g_aload_n (pc' := 81)  hc rfl rfl rfl rfl ?_
            refine z_virt (as := [.ref 1, .ref 13]) (a := 4) (r := []) hc rfl rfl rfl rfl sh_4 rfl zco_52 rfl rfl rfl ?_
            refine ok_X6_readNumber_4_1_13 (zdp hd rfl) (zwp_mono (zwp_bind h) ?_)
            rintro ⟨r30, o27, o28, o29⟩ h
            refine z_po (pc' := 84) (st' := [.int r30]) (v := (some (.int r30))) (L' := [(4, some 1, fun _ => (I 4 1)), (4, some 2, fun _ => (I 4 2)), (4, some 3, fun _ => (I 4 3)), (4, some 4, fun _ => (I 4 4)), (4, some 5, fun _ => o27), (5, none, (I 5)), (13, some 2, fun _ => o29), (15, none, o28)]) (K' := []) zco_52 rfl rfl rfl rfl rfl rfl rfl rfl ?_
            refine g_goto hc rfl ?_
            replace h := zws h
            exact g_ireturn hc rfl rfl rfl (fun _ => ⟨rfl, rfl⟩) h
        · replace h := zwp_f h hx
          refine g_aload_n (pc' := 48)  hc rfl rfl rfl rfl ?_
          refine g_bipush (pc' := 50) (v := (-20 : Int32)) hc rfl zkb_m20 rfl ?_
          refine z_virt (as := [.int (-20 : Int32)]) (a := 4) (r := []) hc rfl rfl rfl rfl sh_4 rfl zco_58 rfl rfl rfl ?_
          refine ok_X6_push_4 (zdp hd rfl) (zwp_mono (zwp_bind h) ?_)
          rintro ⟨o31, o32⟩ h
          refine z_po (pc' := 53) (st' := []) (v := none) (L' := [(4, some 1, fun _ => o32), (4, some 2, fun _ => (I 4 2)), (4, some 3, fun _ => (I 4 3)), (4, some 4, fun _ => (I 4 4)), (4, some 5, fun _ => (I 4 5)), (5, none, o31), (13, some 2, fun _ => (I 13 2)), (15, none, (I 15))]) (K' := []) zco_58 rfl rfl rfl rfl rfl rfl rfl rfl ?_
          refine g_aload_n (pc' := 54)  hc rfl rfl rfl rfl ?_
          refine g_dup (pc' := 55)  hc rfl rfl rfl ?_
          refine z_getI (pc' := 58) (v := (I 4 2)) hc rfl rfl rfl sh_4 rfl rfl rfl ?_
          refine g_iconst (pc' := 59) (v := (1 : Int32)) hc rfl zki_1 rfl ?_
          refine g_iadd (pc' := 60)  hc rfl rfl ?_
          refine z_putI (pc' := 63) (L' := [(4, some 1, fun _ => o32), (4, some 2, fun _ => (((I 4 2)) + (1 : Int32))), (4, some 3, fun _ => (I 4 3)), (4, some 4, fun _ => (I 4 4)), (4, some 5, fun _ => (I 4 5)), (5, none, o31), (13, some 2, fun _ => (I 13 2)), (15, none, (I 15))]) hc rfl rfl rfl sh_4 rfl zft_6_2 rfl (fun h => Bool.noConfusion h) rfl rfl rfl ?_
          refine g_aload_n (pc' := 64)  hc rfl rfl rfl rfl ?_
          refine g_iconst (pc' := 65) (v := (1 : Int32)) hc rfl zki_1 rfl ?_
          refine z_virt (as := [.int (1 : Int32)]) (a := 4) (r := []) hc rfl rfl rfl rfl sh_4 rfl zco_50 rfl rfl rfl ?_
          refine ok_X6_beginPart_4 (zdp hd rfl) (zwp_mono (zwp_bind h) ?_)
          rintro ⟨o33, o34, o35⟩ h
          refine z_po (pc' := 68) (st' := []) (v := none) (L' := [(4, some 1, fun _ => o32), (4, some 2, fun _ => (((I 4 2)) + (1 : Int32))), (4, some 3, fun _ => o34), (4, some 4, fun _ => o33), (4, some 5, fun _ => o35), (5, none, o31), (13, some 2, fun _ => (I 13 2)), (15, none, (I 15))]) (K' := []) zco_50 rfl rfl rfl rfl rfl rfl rfl rfl ?_
          refine g_iconst (pc' := 69) (v := (0 : Int32)) hc rfl zki_0 rfl ?_
          replace h := zws h
          exact g_ireturn hc rfl rfl rfl (fun _ => ⟨rfl, rfl⟩) h
      · replace h := zwp_f h hx
        refine g_iconst (pc' := 41) (v := (2 : Int32)) hc rfl zki_2 rfl ?_
        replace h := zws h
        exact g_ireturn hc rfl rfl rfl (fun _ => ⟨rfl, rfl⟩) h
    · replace h := zwp_f h hx
      refine g_aload_n (pc' := 22)  hc rfl rfl rfl rfl ?_
      refine z_getI (pc' := 25) (v := (I 1 5)) hc rfl rfl rfl sh_1 rfl rfl rfl ?_
      refine g_iconst (pc' := 26) (v := (1 : Int32)) hc rfl zki_1 rfl ?_
      refine g_icmp_eq (pc' := 29) hc rfl rfl (fun hx => ?_) (fun hx => ?_)
      · replace h := zwp_t h hx
        refine g_aload_n (pc' := 32)  hc rfl rfl rfl rfl ?_
        refine z_getI (pc' := 35) (v := (I 4 2)) hc rfl rfl rfl sh_4 rfl rfl rfl ?_
        refine g_bipush (pc' := 37) (v := (6 : Int32)) hc rfl zkb_6 rfl ?_
        refine g_icmp_lt (pc' := 40) hc rfl rfl (fun hx => ?_) (fun hx => ?_)
        · replace h := zwp_t h hx
          refine g_iload (pc' := 44)  hc rfl rfl rfl ?_
          refine g_if_eq (pc' := 47) hc rfl rfl (fun hx => ?_) (fun hx => ?_)
          · replace h := zwp_t h hx
            refine g_aload_n (pc' := 71)  hc rfl rfl rfl rfl ?_
            refine z_getI (pc' := 74) (v := (I 1 5)) hc rfl rfl rfl sh_1 rfl rfl rfl ?_
            refine g_iconst (pc' := 75) (v := (2 : Int32)) hc rfl zki_2 rfl ?_
            refine g_icmp_ne (pc' := 78) hc rfl rfl (fun hx => ?_) (fun hx => ?_)
            · replace h := zwp_f h hx
              refine g_aload_n (pc' := 88)  hc rfl rfl rfl rfl ?_
              refine g_aload_n (pc' := 89)  hc rfl rfl rfl rfl ?_
              refine g_aload_n (pc' := 90)  hc rfl rfl rfl rfl ?_
              refine g_aload_n (pc' := 91)  hc rfl rfl rfl rfl ?_
              refine g_iload_n (pc' := 92)  hc rfl rfl rfl ?_
              refine z_stat (as := [.ref 1, .int a3]) (r := [.ref 13, .ref 1, .ref 4]) hc rfl rfl rfl rfl zco_54 rfl rfl rfl ?_
              refine ok_X6_valueOf_1 (zdp hd rfl) (zwp_mono (zwp_bind h) ?_)
              rintro r36 h
              refine z_po (pc' := 95) (st' := [.int r36, .ref 13, .ref 1, .ref 4]) (v := (some (.int r36))) (L' := [(4, some 1, fun _ => (I 4 1)), (4, some 2, fun _ => (I 4 2)), (4, some 3, fun _ => (I 4 3)), (4, some 4, fun _ => (I 4 4)), (4, some 5, fun _ => (I 4 5)), (5, none, (I 5)), (13, some 2, fun _ => (I 13 2)), (15, none, (I 15))]) (K' := []) zco_54 rfl rfl rfl rfl rfl rfl rfl rfl ?_
              refine z_virt (as := [.ref 1, .ref 13, .int r36]) (a := 4) (r := []) hc rfl rfl rfl rfl sh_4 rfl zco_53 rfl rfl rfl ?_
              refine ok_X6_readWord_4_1_13 (zdp hd rfl) (zwp_mono (zwp_bind h) ?_)
              rintro ⟨r43, o37, o38, o39, o40, o41, o42⟩ h
              refine z_po (pc' := 98) (st' := [.int r43]) (v := (some (.int r43))) (L' := [(4, some 1, fun _ => o42), (4, some 2, fun _ => (I 4 2)), (4, some 3, fun _ => o37), (4, some 4, fun _ => (I 4 4)), (4, some 5, fun _ => o38), (5, none, o41), (13, some 2, fun _ => o40), (15, none, o39)]) (K' := []) zco_53 rfl rfl rfl rfl rfl rfl rfl rfl ?_
              replace h := zws h
              exact g_ireturn hc rfl rfl rfl (fun _ => ⟨rfl, rfl⟩) h
            · replace h := zwp_t h hx
              refine g_aload_n (pc' := 79)  hc rfl rfl rfl rfl ?_
              refine g_aload_n (pc' := 80)  hc rfl rfl rfl rfl ?_
              refine g_aload_n (pc' := 81)  hc rfl rfl rfl rfl ?_
              refine z_virt (as := [.ref 1, .ref 13]) (a := 4) (r := []) hc rfl rfl rfl rfl sh_4 rfl zco_52 rfl rfl rfl ?_
              refine ok_X6_readNumber_4_1_13 (zdp hd rfl) (zwp_mono (zwp_bind h) ?_)
              rintro ⟨r47, o44, o45, o46⟩ h
              refine z_po (pc' := 84) (st' := [.int r47]) (v := (some (.int r47))) (L' := [(4, some 1, fun _ => (I 4 1)), (4, some 2, fun _ => (I 4 2)), (4, some 3, fun _ => (I 4 3)), (4, some 4, fun _ => (I 4 4)), (4, some 5, fun _ => o44), (5, none, (I 5)), (13, some 2, fun _ => o46), (15, none, o45)]) (K' := []) zco_52 rfl rfl rfl rfl rfl rfl rfl rfl ?_
              refine g_goto hc rfl ?_
              replace h := zws h
              exact g_ireturn hc rfl rfl rfl (fun _ => ⟨rfl, rfl⟩) h
          · replace h := zwp_f h hx
            refine g_aload_n (pc' := 48)  hc rfl rfl rfl rfl ?_
            refine g_bipush (pc' := 50) (v := (-20 : Int32)) hc rfl zkb_m20 rfl ?_
            refine z_virt (as := [.int (-20 : Int32)]) (a := 4) (r := []) hc rfl rfl rfl rfl sh_4 rfl zco_58 rfl rfl rfl ?_
            refine ok_X6_push_4 (zdp hd rfl) (zwp_mono (zwp_bind h) ?_)
            rintro ⟨o48, o49⟩ h
            refine z_po (pc' := 53) (st' := []) (v := none) (L' := [(4, some 1, fun _ => o49), (4, some 2, fun _ => (I 4 2)), (4, some 3, fun _ => (I 4 3)), (4, some 4, fun _ => (I 4 4)), (4, some 5, fun _ => (I 4 5)), (5, none, o48), (13, some 2, fun _ => (I 13 2)), (15, none, (I 15))]) (K' := []) zco_58 rfl rfl rfl rfl rfl rfl rfl rfl ?_
            refine g_aload_n (pc' := 54)  hc rfl rfl rfl rfl ?_
            refine g_dup (pc' := 55)  hc rfl rfl rfl ?_
            refine z_getI (pc' := 58) (v := (I 4 2)) hc rfl rfl rfl sh_4 rfl rfl rfl ?_
            refine g_iconst (pc' := 59) (v := (1 : Int32)) hc rfl zki_1 rfl ?_
            refine g_iadd (pc' := 60)  hc rfl rfl ?_
            refine z_putI (pc' := 63) (L' := [(4, some 1, fun _ => o49), (4, some 2, fun _ => (((I 4 2)) + (1 : Int32))), (4, some 3, fun _ => (I 4 3)), (4, some 4, fun _ => (I 4 4)), (4, some 5, fun _ => (I 4 5)), (5, none, o48), (13, some 2, fun _ => (I 13 2)), (15, none, (I 15))]) hc rfl rfl rfl sh_4 rfl zft_6_2 rfl (fun h => Bool.noConfusion h) rfl rfl rfl ?_
            refine g_aload_n (pc' := 64)  hc rfl rfl rfl rfl ?_
            refine g_iconst (pc' := 65) (v := (1 : Int32)) hc rfl zki_1 rfl ?_
            refine z_virt (as := [.int (1 : Int32)]) (a := 4) (r := []) hc rfl rfl rfl rfl sh_4 rfl zco_50 rfl rfl rfl ?_
            refine ok_X6_beginPart_4 (zdp hd rfl) (zwp_mono (zwp_bind h) ?_)
            rintro ⟨o50, o51, o52⟩ h
            refine z_po (pc' := 68) (st' := []) (v := none) (L' := [(4, some 1, fun _ => o49), (4, some 2, fun _ => (((I 4 2)) + (1 : Int32))), (4, some 3, fun _ => o51), (4, some 4, fun _ => o50), (4, some 5, fun _ => o52), (5, none, o48), (13, some 2, fun _ => (I 13 2)), (15, none, (I 15))]) (K' := []) zco_50 rfl rfl rfl rfl rfl rfl rfl rfl ?_
            refine g_iconst (pc' := 69) (v := (0 : Int32)) hc rfl zki_0 rfl ?_
            replace h := zws h
            exact g_ireturn hc rfl rfl rfl (fun _ => ⟨rfl, rfl⟩) h
        · replace h := zwp_f h hx
          refine g_iconst (pc' := 41) (v := (2 : Int32)) hc rfl zki_2 rfl ?_
          replace h := zws h
          exact g_ireturn hc rfl rfl rfl (fun _ => ⟨rfl, rfl⟩) h
      · replace h := zwp_f h hx
        refine g_iconst (pc' := 30) (v := (1 : Int32)) hc rfl zki_1 rfl ?_
        replace h := zws h
        exact g_ireturn hc rfl rfl rfl (fun _ => ⟨rfl, rfl⟩) h
set_option maxRecDepth 4000 in
theorem ok_X6_release_4_13 {p q : Nat} {I : pI} {J : pJ} {a2 : Int32} {Q : pQ} {d : Nat} (hd : 2 ≤ d) (h : zwp (f_X6_release a2 (I 15) (I 13 2) (I 5) (I 4 1)) (fun w => match w with | (o0, o1, o2) => Q (.inl none) (zS p q I [(4, some 1, fun _ => o2), (13, some 2, fun _ => o1), (15, none, o0)] J []))) : pm_call M cost zext d 59 [.ref 4, .ref 13, .int a2] (pm_st 108 (shp p q) I J) Q := by
  obtain ⟨d, rfl⟩ := zd1 hd rfl
  have hc := pm_call_m (M := M) (cost := cost) zext_m d
  refine z_in (L := [(4, some 1, fun _ => (I 4 1)), (13, some 2, fun _ => (I 13 2)), (15, none, (I 15))]) (K := []) (ls := [some (.ref 4), some (.ref 13), some (.int a2)]) zmt_59 zco_59 rfl rfl (zid_s (zid_s (zid_a zid_n))) zid_n ?_
  delta f_X6_release at h
  refine zjn (G := (fun (g : (Nat → Int32) × Int32 × Int32) => match g with | (y4, y5, y6) => pm_ev C_X6_release (d + 1) (pm_call M cost zext d) cost (false, false) 108 0 0 Q 51 [some (.ref 4), some (.ref 13), some (.int a2)] [] 0 0 (zS p q I [(4, some 1, fun _ => y6), (13, some 2, fun _ => y5), (15, none, y4)] J []))) (zwp_bind h) ?_ (fun h => ?_)
  · rintro ⟨y4, y5, y6⟩ h
    replace h := zws h
    exact g_return hc rfl rfl (fun _ => ⟨rfl, rfl⟩) h
  refine zitr_ev (G := (fun (g : (Nat → Int32) × Int32 × Int32) => match g with | (x1, x2, x3) => pm_ev C_X6_release (d + 1) (pm_call M cost zext d) cost (false, false) 108 0 0 Q 0 [some (.ref 4), some (.ref 13), some (.int a2)] [] 0 0 (zS p q I [(4, some 1, fun _ => x3), (13, some 2, fun _ => x2), (15, none, x1)] J []))) ?_ zFU ((I 15), (I 13 2), (I 4 1)) h
  rintro ⟨x1, x2, x3⟩ h
  refine g_aload_n (pc' := 1)  hc rfl rfl rfl rfl ?_
  refine z_getI (pc' := 4) (v := x3) hc rfl rfl rfl sh_4 rfl rfl rfl ?_
  refine g_if_le (pc' := 7) hc rfl rfl (fun hx => ?_) (fun hx => ?_)
  · replace h := zwp_t h hx
    replace h := zwp_r h
    exact h
  · replace h := zwp_f h hx
    refine g_aload_n (pc' := 8)  hc rfl rfl rfl rfl ?_
    refine z_getR (pc' := 11)  hc rfl rfl rfl sh_4 rfl rfl ?_
    refine g_aload_n (pc' := 12)  hc rfl rfl rfl rfl ?_
    refine z_getI (pc' := 15) (v := x3) hc rfl rfl rfl sh_4 rfl rfl rfl ?_
    refine g_iconst (pc' := 16) (v := (1 : Int32)) hc rfl zki_1 rfl ?_
    refine g_isub (pc' := 17)  hc rfl rfl ?_
    have hb := (zwp_bnd h).1
    replace h := (zwp_bnd h).2
    refine z_iaload (pc' := 18) (v := (((I 5)) (x3 - (1 : Int32)).toNatClampNeg)) hc rfl rfl sh_5 hb rfl rfl ?_
    refine z_stat (as := [.int (((I 5)) (x3 - (1 : Int32)).toNatClampNeg)]) (r := []) hc rfl rfl rfl rfl zco_57 rfl rfl rfl ?_
    refine ok_X6_rankOf (zdp hd rfl) (zwp_mono (zwp_bind h) ?_)
    rintro r7 h
    refine z_po (pc' := 21) (st' := [.int r7]) (v := (some (.int r7))) (L' := [(4, some 1, fun _ => x3), (13, some 2, fun _ => x2), (15, none, x1)]) (K' := []) zco_57 rfl rfl rfl rfl rfl rfl rfl rfl ?_
    refine g_iload_n (pc' := 22)  hc rfl rfl rfl ?_
    refine g_icmp_lt (pc' := 25) hc rfl rfl (fun hx => ?_) (fun hx => ?_)
    · replace h := zwp_t h hx
      replace h := zwp_r h
      exact h
    · replace h := zwp_f h hx
      refine g_aload_n (pc' := 26)  hc rfl rfl rfl rfl ?_
      refine g_dup (pc' := 27)  hc rfl rfl rfl ?_
      refine z_getI (pc' := 30) (v := x3) hc rfl rfl rfl sh_4 rfl rfl rfl ?_
      refine g_iconst (pc' := 31) (v := (1 : Int32)) hc rfl zki_1 rfl ?_
      refine g_isub (pc' := 32)  hc rfl rfl ?_
      refine z_putI (pc' := 35) (L' := [(4, some 1, fun _ => (x3 - (1 : Int32))), (13, some 2, fun _ => x2), (15, none, x1)]) hc rfl rfl rfl sh_4 rfl zft_6_1 rfl (fun h => Bool.noConfusion h) rfl rfl rfl ?_
      refine g_aload_n (pc' := 36)  hc rfl rfl rfl rfl ?_
      refine g_aload_n (pc' := 37)  hc rfl rfl rfl rfl ?_
      refine z_getR (pc' := 40)  hc rfl rfl rfl sh_4 rfl rfl ?_
      refine g_aload_n (pc' := 41)  hc rfl rfl rfl rfl ?_
      refine z_getI (pc' := 44) (v := (x3 - (1 : Int32))) hc rfl rfl rfl sh_4 rfl rfl rfl ?_
      have hb := (zwp_bnd h).1
      replace h := (zwp_bnd h).2
      refine z_iaload (pc' := 45) (v := (((I 5)) (x3 - (1 : Int32)).toNatClampNeg)) hc rfl rfl sh_5 hb rfl rfl ?_
      refine z_virt (as := [.int (((I 5)) (x3 - (1 : Int32)).toNatClampNeg)]) (a := 13) (r := []) hc rfl rfl rfl rfl sh_13 rfl zco_44 rfl rfl rfl ?_
      refine ok_X5_add_13 (zdp hd rfl) (zwp_mono (zwp_bind h) ?_)
      rintro ⟨o8, o9⟩ h
      refine z_po (pc' := 48) (st' := []) (v := none) (L' := [(4, some 1, fun _ => (x3 - (1 : Int32))), (13, some 2, fun _ => o9), (15, none, o8)]) (K' := []) zco_44 rfl rfl rfl rfl rfl rfl rfl rfl ?_
      refine g_goto hc rfl ?_
      replace h := zwp_l h
      exact h
set_option maxRecDepth 4000 in
theorem ok_X6_readOperator_4_1_13 {p q : Nat} {I : pI} {J : pJ} {Q : pQ} {d : Nat} (hd : 9 ≤ d) (h : zwp (f_X6_readOperator (I 4 4) (I 4 2) (I 4 3) (I 4 5) (I 15) (I 13 2) (I 2) (I 1 4) (I 1 5) (I 1 3) (I 5) (I 4 1)) (fun w => match w with | (r, o0, o1, o2, o3, o4, o5, o6, o7) => Q (.inl (some (.int r))) (zS p q I [(4, some 1, fun _ => o7), (4, some 2, fun _ => o1), (4, some 3, fun _ => o2), (4, some 4, fun _ => o0), (4, some 5, fun _ => o3), (5, none, o6), (13, some 2, fun _ => o5), (15, none, o4)] J []))) : pm_call M cost zext d 55 [.ref 4, .ref 1, .ref 13] (pm_st 108 (shp p q) I J) Q := by
  obtain ⟨d, rfl⟩ := zd1 hd rfl
  have hc := pm_call_m (M := M) (cost := cost) zext_m d
  refine z_in (L := [(4, some 1, fun _ => (I 4 1)), (4, some 2, fun _ => (I 4 2)), (4, some 3, fun _ => (I 4 3)), (4, some 4, fun _ => (I 4 4)), (4, some 5, fun _ => (I 4 5)), (5, none, (I 5)), (13, some 2, fun _ => (I 13 2)), (15, none, (I 15))]) (K := []) (ls := [some (.ref 4), some (.ref 1), some (.ref 13), none, none, none]) zmt_55 zco_55 rfl rfl (zid_s (zid_s (zid_s (zid_s (zid_s (zid_a (zid_s (zid_a zid_n)))))))) zid_n ?_
  delta f_X6_readOperator at h
  refine g_aload_n (pc' := 1)  hc rfl rfl rfl rfl ?_
  refine g_bipush (pc' := 3) (v := (41 : Int32)) hc rfl zkb_41 rfl ?_
  refine z_virt (as := [.int (41 : Int32)]) (a := 1) (r := []) hc rfl rfl rfl rfl sh_1 rfl zco_88 rfl rfl rfl ?_
  refine ok_X9_isSign_1 (zdp hd rfl) (zwp_mono (zwp_bind h) ?_)
  rintro r1 h
  refine z_po (pc' := 6) (st' := [.int r1]) (v := (some (.int r1))) (L' := [(4, some 1, fun _ => (I 4 1)), (4, some 2, fun _ => (I 4 2)), (4, some 3, fun _ => (I 4 3)), (4, some 4, fun _ => (I 4 4)), (4, some 5, fun _ => (I 4 5)), (5, none, (I 5)), (13, some 2, fun _ => (I 13 2)), (15, none, (I 15))]) (K' := []) zco_88 rfl rfl rfl rfl rfl rfl rfl rfl ?_
  refine g_if_eq (pc' := 9) hc rfl rfl (fun hx => ?_) (fun hx => ?_)
  · replace h := zwp_t h hx
    refine g_aload_n (pc' := 49)  hc rfl rfl rfl rfl ?_
    refine z_stat (as := [.ref 1]) (r := []) hc rfl rfl rfl rfl zco_56 rfl rfl rfl ?_
    refine ok_X6_operatorOf_1 (zdp hd rfl) (zwp_mono (zwp_bind h) ?_)
    rintro r2 h
    refine z_po (pc' := 52) (st' := [.int r2]) (v := (some (.int r2))) (L' := [(4, some 1, fun _ => (I 4 1)), (4, some 2, fun _ => (I 4 2)), (4, some 3, fun _ => (I 4 3)), (4, some 4, fun _ => (I 4 4)), (4, some 5, fun _ => (I 4 5)), (5, none, (I 5)), (13, some 2, fun _ => (I 13 2)), (15, none, (I 15))]) (K' := []) zco_56 rfl rfl rfl rfl rfl rfl rfl rfl ?_
    refine g_istore_n (pc' := 53) (ls1 := [some (.ref 4), some (.ref 1), some (.ref 13), some (.int r2), none, none]) hc rfl (zlt rfl) rfl rfl ?_
    refine g_iload_n (pc' := 54)  hc rfl rfl rfl ?_
    refine g_iconst (pc' := 55) (v := (-1 : Int32)) hc rfl zki_m1 rfl ?_
    refine g_icmp_ne (pc' := 58) hc rfl rfl (fun hx => ?_) (fun hx => ?_)
    · replace h := zwp_f h hx
      refine g_iload_n (pc' := 61)  hc rfl rfl rfl ?_
      refine z_stat (as := [.int r2]) (r := []) hc rfl rfl rfl rfl zco_57 rfl rfl rfl ?_
      refine ok_X6_rankOf (zdp hd rfl) (zwp_mono (zwp_bind h) ?_)
      rintro r3 h
      refine z_po (pc' := 64) (st' := [.int r3]) (v := (some (.int r3))) (L' := [(4, some 1, fun _ => (I 4 1)), (4, some 2, fun _ => (I 4 2)), (4, some 3, fun _ => (I 4 3)), (4, some 4, fun _ => (I 4 4)), (4, some 5, fun _ => (I 4 5)), (5, none, (I 5)), (13, some 2, fun _ => (I 13 2)), (15, none, (I 15))]) (K' := []) zco_57 rfl rfl rfl rfl rfl rfl rfl rfl ?_
      refine g_istore (pc' := 66) (ls1 := [some (.ref 4), some (.ref 1), some (.ref 13), some (.int r2), some (.int r3), none]) hc rfl (zlt rfl) rfl rfl ?_
      refine g_iload (pc' := 68)  hc rfl rfl rfl ?_
      refine g_bipush (pc' := 70) (v := (-14 : Int32)) hc rfl zkb_m14 rfl ?_
      refine z_stat (as := [.int (-14 : Int32)]) (r := [.int r3]) hc rfl rfl rfl rfl zco_57 rfl rfl rfl ?_
      refine ok_X6_rankOf (zdp hd rfl) (zwp_mono (zwp_bind h) ?_)
      rintro r4 h
      refine z_po (pc' := 73) (st' := [.int r4, .int r3]) (v := (some (.int r4))) (L' := [(4, some 1, fun _ => (I 4 1)), (4, some 2, fun _ => (I 4 2)), (4, some 3, fun _ => (I 4 3)), (4, some 4, fun _ => (I 4 4)), (4, some 5, fun _ => (I 4 5)), (5, none, (I 5)), (13, some 2, fun _ => (I 13 2)), (15, none, (I 15))]) (K' := []) zco_57 rfl rfl rfl rfl rfl rfl rfl rfl ?_
      refine zjn (G := (fun (j5 : Int32) => pm_ev C_X6_readOperator (d + 1) (pm_call M cost zext d) cost (false, false) 108 0 0 Q 81 [some (.ref 4), some (.ref 1), some (.ref 13), some (.int r2), some (.int r3), none] [.int j5] 0 0 (zS p q I [(4, some 1, fun _ => (I 4 1)), (4, some 2, fun _ => (I 4 2)), (4, some 3, fun _ => (I 4 3)), (4, some 4, fun _ => (I 4 4)), (4, some 5, fun _ => (I 4 5)), (5, none, (I 5)), (13, some 2, fun _ => (I 13 2)), (15, none, (I 15))] J []))) (zwp_bind h) ?_ (fun h => ?_)
      · rintro j5 h
        refine g_istore (pc' := 83) (ls1 := [some (.ref 4), some (.ref 1), some (.ref 13), some (.int r2), some (.int r3), some (.int j5)]) hc rfl (zlt rfl) rfl rfl ?_
        refine g_aload_n (pc' := 84)  hc rfl rfl rfl rfl ?_
        refine g_aload_n (pc' := 85)  hc rfl rfl rfl rfl ?_
        refine g_iload (pc' := 87)  hc rfl rfl rfl ?_
        refine zjn (G := (fun (j6 : Int32) => pm_ev C_X6_readOperator (d + 1) (pm_call M cost zext d) cost (false, false) 108 0 0 Q 99 [some (.ref 4), some (.ref 1), some (.ref 13), some (.int r2), some (.int r3), some (.int j5)] [.int j6, .ref 13, .ref 4] 0 0 (zS p q I [(4, some 1, fun _ => (I 4 1)), (4, some 2, fun _ => (I 4 2)), (4, some 3, fun _ => (I 4 3)), (4, some 4, fun _ => (I 4 4)), (4, some 5, fun _ => (I 4 5)), (5, none, (I 5)), (13, some 2, fun _ => (I 13 2)), (15, none, (I 15))] J []))) (zwp_bind h) ?_ (fun h => ?_)
        · rintro j6 h
          refine z_virt (as := [.ref 13, .int j6]) (a := 4) (r := []) hc rfl rfl rfl rfl sh_4 rfl zco_59 rfl rfl rfl ?_
          refine ok_X6_release_4_13 (zdp hd rfl) (zwp_mono (zwp_bind h) ?_)
          rintro ⟨o7, o8, o9⟩ h
          refine z_po (pc' := 102) (st' := []) (v := none) (L' := [(4, some 1, fun _ => o9), (4, some 2, fun _ => (I 4 2)), (4, some 3, fun _ => (I 4 3)), (4, some 4, fun _ => (I 4 4)), (4, some 5, fun _ => (I 4 5)), (5, none, (I 5)), (13, some 2, fun _ => o8), (15, none, o7)]) (K' := []) zco_59 rfl rfl rfl rfl rfl rfl rfl rfl ?_
          refine g_iload (pc' := 104)  hc rfl rfl rfl ?_
          refine g_if_eq (pc' := 107) hc rfl rfl (fun hx => ?_) (fun hx => ?_)
          · replace h := zwp_t h hx
            refine g_aload_n (pc' := 136)  hc rfl rfl rfl rfl ?_
            refine g_iload_n (pc' := 137)  hc rfl rfl rfl ?_
            refine z_virt (as := [.int r2]) (a := 4) (r := []) hc rfl rfl rfl rfl sh_4 rfl zco_58 rfl rfl rfl ?_
            refine ok_X6_push_4 (zdp hd rfl) (zwp_mono (zwp_bind h) ?_)
            rintro ⟨o10, o11⟩ h
            refine z_po (pc' := 140) (st' := []) (v := none) (L' := [(4, some 1, fun _ => o11), (4, some 2, fun _ => (I 4 2)), (4, some 3, fun _ => (I 4 3)), (4, some 4, fun _ => (I 4 4)), (4, some 5, fun _ => (I 4 5)), (5, none, o10), (13, some 2, fun _ => o8), (15, none, o7)]) (K' := []) zco_58 rfl rfl rfl rfl rfl rfl rfl rfl ?_
            refine g_aload_n (pc' := 141)  hc rfl rfl rfl rfl ?_
            refine g_iload (pc' := 143)  hc rfl rfl rfl ?_
            refine g_bipush (pc' := 145) (v := (-12 : Int32)) hc rfl zkb_m12 rfl ?_
            refine z_stat (as := [.int (-12 : Int32)]) (r := [.int r3, .ref 4]) hc rfl rfl rfl rfl zco_57 rfl rfl rfl ?_
            refine ok_X6_rankOf (zdp hd rfl) (zwp_mono (zwp_bind h) ?_)
            rintro r12 h
            refine z_po (pc' := 148) (st' := [.int r12, .int r3, .ref 4]) (v := (some (.int r12))) (L' := [(4, some 1, fun _ => o11), (4, some 2, fun _ => (I 4 2)), (4, some 3, fun _ => (I 4 3)), (4, some 4, fun _ => (I 4 4)), (4, some 5, fun _ => (I 4 5)), (5, none, o10), (13, some 2, fun _ => o8), (15, none, o7)]) (K' := []) zco_57 rfl rfl rfl rfl rfl rfl rfl rfl ?_
            refine zjn (G := (fun (j13 : Int32) => pm_ev C_X6_readOperator (d + 1) (pm_call M cost zext d) cost (false, false) 108 0 0 Q 156 [some (.ref 4), some (.ref 1), some (.ref 13), some (.int r2), some (.int r3), some (.int j5)] [.int j13, .ref 4] 0 0 (zS p q I [(4, some 1, fun _ => o11), (4, some 2, fun _ => (I 4 2)), (4, some 3, fun _ => (I 4 3)), (4, some 4, fun _ => (I 4 4)), (4, some 5, fun _ => (I 4 5)), (5, none, o10), (13, some 2, fun _ => o8), (15, none, o7)] J []))) (zwp_bind h) ?_ (fun h => ?_)
            · rintro j13 h
              refine z_virt (as := [.int j13]) (a := 4) (r := []) hc rfl rfl rfl rfl sh_4 rfl zco_50 rfl rfl rfl ?_
              refine ok_X6_beginPart_4 (zdp hd rfl) (zwp_mono (zwp_bind h) ?_)
              rintro ⟨o14, o15, o16⟩ h
              refine z_po (pc' := 159) (st' := []) (v := none) (L' := [(4, some 1, fun _ => o11), (4, some 2, fun _ => (I 4 2)), (4, some 3, fun _ => o15), (4, some 4, fun _ => o14), (4, some 5, fun _ => o16), (5, none, o10), (13, some 2, fun _ => o8), (15, none, o7)]) (K' := []) zco_50 rfl rfl rfl rfl rfl rfl rfl rfl ?_
              refine g_iconst (pc' := 160) (v := (0 : Int32)) hc rfl zki_0 rfl ?_
              replace h := zws h
              exact g_ireturn hc rfl rfl rfl (fun _ => ⟨rfl, rfl⟩) h
            refine g_icmp_gt (pc' := 151) hc rfl rfl (fun hx => ?_) (fun hx => ?_)
            · replace h := zwp_t h hx
              refine g_iconst (pc' := 156) (v := (0 : Int32)) hc rfl zki_0 rfl ?_
              replace h := zws h
              exact h
            · replace h := zwp_f h hx
              refine g_iconst (pc' := 152) (v := (1 : Int32)) hc rfl zki_1 rfl ?_
              refine g_goto hc rfl ?_
              replace h := zws h
              exact h
          · replace h := zwp_f h hx
            refine g_aload_n (pc' := 108)  hc rfl rfl rfl rfl ?_
            refine z_getI (pc' := 111) (v := o9) hc rfl rfl rfl sh_4 rfl rfl rfl ?_
            refine g_if_le (pc' := 114) hc rfl rfl (fun hx => ?_) (fun hx => ?_)
            · replace h := zwp_t h hx
              refine g_aload_n (pc' := 136)  hc rfl rfl rfl rfl ?_
              refine g_iload_n (pc' := 137)  hc rfl rfl rfl ?_
              refine z_virt (as := [.int r2]) (a := 4) (r := []) hc rfl rfl rfl rfl sh_4 rfl zco_58 rfl rfl rfl ?_
              refine ok_X6_push_4 (zdp hd rfl) (zwp_mono (zwp_bind h) ?_)
              rintro ⟨o17, o18⟩ h
              refine z_po (pc' := 140) (st' := []) (v := none) (L' := [(4, some 1, fun _ => o18), (4, some 2, fun _ => (I 4 2)), (4, some 3, fun _ => (I 4 3)), (4, some 4, fun _ => (I 4 4)), (4, some 5, fun _ => (I 4 5)), (5, none, o17), (13, some 2, fun _ => o8), (15, none, o7)]) (K' := []) zco_58 rfl rfl rfl rfl rfl rfl rfl rfl ?_
              refine g_aload_n (pc' := 141)  hc rfl rfl rfl rfl ?_
              refine g_iload (pc' := 143)  hc rfl rfl rfl ?_
              refine g_bipush (pc' := 145) (v := (-12 : Int32)) hc rfl zkb_m12 rfl ?_
              refine z_stat (as := [.int (-12 : Int32)]) (r := [.int r3, .ref 4]) hc rfl rfl rfl rfl zco_57 rfl rfl rfl ?_
              refine ok_X6_rankOf (zdp hd rfl) (zwp_mono (zwp_bind h) ?_)
              rintro r19 h
              refine z_po (pc' := 148) (st' := [.int r19, .int r3, .ref 4]) (v := (some (.int r19))) (L' := [(4, some 1, fun _ => o18), (4, some 2, fun _ => (I 4 2)), (4, some 3, fun _ => (I 4 3)), (4, some 4, fun _ => (I 4 4)), (4, some 5, fun _ => (I 4 5)), (5, none, o17), (13, some 2, fun _ => o8), (15, none, o7)]) (K' := []) zco_57 rfl rfl rfl rfl rfl rfl rfl rfl ?_
              refine zjn (G := (fun (j20 : Int32) => pm_ev C_X6_readOperator (d + 1) (pm_call M cost zext d) cost (false, false) 108 0 0 Q 156 [some (.ref 4), some (.ref 1), some (.ref 13), some (.int r2), some (.int r3), some (.int j5)] [.int j20, .ref 4] 0 0 (zS p q I [(4, some 1, fun _ => o18), (4, some 2, fun _ => (I 4 2)), (4, some 3, fun _ => (I 4 3)), (4, some 4, fun _ => (I 4 4)), (4, some 5, fun _ => (I 4 5)), (5, none, o17), (13, some 2, fun _ => o8), (15, none, o7)] J []))) (zwp_bind h) ?_ (fun h => ?_)
              · rintro j20 h
                refine z_virt (as := [.int j20]) (a := 4) (r := []) hc rfl rfl rfl rfl sh_4 rfl zco_50 rfl rfl rfl ?_
                refine ok_X6_beginPart_4 (zdp hd rfl) (zwp_mono (zwp_bind h) ?_)
                rintro ⟨o21, o22, o23⟩ h
                refine z_po (pc' := 159) (st' := []) (v := none) (L' := [(4, some 1, fun _ => o18), (4, some 2, fun _ => (I 4 2)), (4, some 3, fun _ => o22), (4, some 4, fun _ => o21), (4, some 5, fun _ => o23), (5, none, o17), (13, some 2, fun _ => o8), (15, none, o7)]) (K' := []) zco_50 rfl rfl rfl rfl rfl rfl rfl rfl ?_
                refine g_iconst (pc' := 160) (v := (0 : Int32)) hc rfl zki_0 rfl ?_
                replace h := zws h
                exact g_ireturn hc rfl rfl rfl (fun _ => ⟨rfl, rfl⟩) h
              refine g_icmp_gt (pc' := 151) hc rfl rfl (fun hx => ?_) (fun hx => ?_)
              · replace h := zwp_t h hx
                refine g_iconst (pc' := 156) (v := (0 : Int32)) hc rfl zki_0 rfl ?_
                replace h := zws h
                exact h
              · replace h := zwp_f h hx
                refine g_iconst (pc' := 152) (v := (1 : Int32)) hc rfl zki_1 rfl ?_
                refine g_goto hc rfl ?_
                replace h := zws h
                exact h
            · replace h := zwp_f h hx
              refine g_aload_n (pc' := 115)  hc rfl rfl rfl rfl ?_
              refine z_getR (pc' := 118)  hc rfl rfl rfl sh_4 rfl rfl ?_
              refine g_aload_n (pc' := 119)  hc rfl rfl rfl rfl ?_
              refine z_getI (pc' := 122) (v := o9) hc rfl rfl rfl sh_4 rfl rfl rfl ?_
              refine g_iconst (pc' := 123) (v := (1 : Int32)) hc rfl zki_1 rfl ?_
              refine g_isub (pc' := 124)  hc rfl rfl ?_
              have hb := (zwp_bnd h).1
              replace h := (zwp_bnd h).2
              refine z_iaload (pc' := 125) (v := (((I 5)) (o9 - (1 : Int32)).toNatClampNeg)) hc rfl rfl sh_5 hb rfl rfl ?_
              refine z_stat (as := [.int (((I 5)) (o9 - (1 : Int32)).toNatClampNeg)]) (r := []) hc rfl rfl rfl rfl zco_57 rfl rfl rfl ?_
              refine ok_X6_rankOf (zdp hd rfl) (zwp_mono (zwp_bind h) ?_)
              rintro r24 h
              refine z_po (pc' := 128) (st' := [.int r24]) (v := (some (.int r24))) (L' := [(4, some 1, fun _ => o9), (4, some 2, fun _ => (I 4 2)), (4, some 3, fun _ => (I 4 3)), (4, some 4, fun _ => (I 4 4)), (4, some 5, fun _ => (I 4 5)), (5, none, (I 5)), (13, some 2, fun _ => o8), (15, none, o7)]) (K' := []) zco_57 rfl rfl rfl rfl rfl rfl rfl rfl ?_
              refine g_iload (pc' := 130)  hc rfl rfl rfl ?_
              refine g_icmp_ne (pc' := 133) hc rfl rfl (fun hx => ?_) (fun hx => ?_)
              · replace h := zwp_f h hx
                refine g_aload_n (pc' := 136)  hc rfl rfl rfl rfl ?_
                refine g_iload_n (pc' := 137)  hc rfl rfl rfl ?_
                refine z_virt (as := [.int r2]) (a := 4) (r := []) hc rfl rfl rfl rfl sh_4 rfl zco_58 rfl rfl rfl ?_
                refine ok_X6_push_4 (zdp hd rfl) (zwp_mono (zwp_bind h) ?_)
                rintro ⟨o25, o26⟩ h
                refine z_po (pc' := 140) (st' := []) (v := none) (L' := [(4, some 1, fun _ => o26), (4, some 2, fun _ => (I 4 2)), (4, some 3, fun _ => (I 4 3)), (4, some 4, fun _ => (I 4 4)), (4, some 5, fun _ => (I 4 5)), (5, none, o25), (13, some 2, fun _ => o8), (15, none, o7)]) (K' := []) zco_58 rfl rfl rfl rfl rfl rfl rfl rfl ?_
                refine g_aload_n (pc' := 141)  hc rfl rfl rfl rfl ?_
                refine g_iload (pc' := 143)  hc rfl rfl rfl ?_
                refine g_bipush (pc' := 145) (v := (-12 : Int32)) hc rfl zkb_m12 rfl ?_
                refine z_stat (as := [.int (-12 : Int32)]) (r := [.int r3, .ref 4]) hc rfl rfl rfl rfl zco_57 rfl rfl rfl ?_
                refine ok_X6_rankOf (zdp hd rfl) (zwp_mono (zwp_bind h) ?_)
                rintro r27 h
                refine z_po (pc' := 148) (st' := [.int r27, .int r3, .ref 4]) (v := (some (.int r27))) (L' := [(4, some 1, fun _ => o26), (4, some 2, fun _ => (I 4 2)), (4, some 3, fun _ => (I 4 3)), (4, some 4, fun _ => (I 4 4)), (4, some 5, fun _ => (I 4 5)), (5, none, o25), (13, some 2, fun _ => o8), (15, none, o7)]) (K' := []) zco_57 rfl rfl rfl rfl rfl rfl rfl rfl ?_
                refine zjn (G := (fun (j28 : Int32) => pm_ev C_X6_readOperator (d + 1) (pm_call M cost zext d) cost (false, false) 108 0 0 Q 156 [some (.ref 4), some (.ref 1), some (.ref 13), some (.int r2), some (.int r3), some (.int j5)] [.int j28, .ref 4] 0 0 (zS p q I [(4, some 1, fun _ => o26), (4, some 2, fun _ => (I 4 2)), (4, some 3, fun _ => (I 4 3)), (4, some 4, fun _ => (I 4 4)), (4, some 5, fun _ => (I 4 5)), (5, none, o25), (13, some 2, fun _ => o8), (15, none, o7)] J []))) (zwp_bind h) ?_ (fun h => ?_)
                · rintro j28 h
                  refine z_virt (as := [.int j28]) (a := 4) (r := []) hc rfl rfl rfl rfl sh_4 rfl zco_50 rfl rfl rfl ?_
                  refine ok_X6_beginPart_4 (zdp hd rfl) (zwp_mono (zwp_bind h) ?_)
                  rintro ⟨o29, o30, o31⟩ h
                  refine z_po (pc' := 159) (st' := []) (v := none) (L' := [(4, some 1, fun _ => o26), (4, some 2, fun _ => (I 4 2)), (4, some 3, fun _ => o30), (4, some 4, fun _ => o29), (4, some 5, fun _ => o31), (5, none, o25), (13, some 2, fun _ => o8), (15, none, o7)]) (K' := []) zco_50 rfl rfl rfl rfl rfl rfl rfl rfl ?_
                  refine g_iconst (pc' := 160) (v := (0 : Int32)) hc rfl zki_0 rfl ?_
                  replace h := zws h
                  exact g_ireturn hc rfl rfl rfl (fun _ => ⟨rfl, rfl⟩) h
                refine g_icmp_gt (pc' := 151) hc rfl rfl (fun hx => ?_) (fun hx => ?_)
                · replace h := zwp_t h hx
                  refine g_iconst (pc' := 156) (v := (0 : Int32)) hc rfl zki_0 rfl ?_
                  replace h := zws h
                  exact h
                · replace h := zwp_f h hx
                  refine g_iconst (pc' := 152) (v := (1 : Int32)) hc rfl zki_1 rfl ?_
                  refine g_goto hc rfl ?_
                  replace h := zws h
                  exact h
              · replace h := zwp_t h hx
                refine g_iconst (pc' := 134) (v := (1 : Int32)) hc rfl zki_1 rfl ?_
                replace h := zws h
                exact g_ireturn hc rfl rfl rfl (fun _ => ⟨rfl, rfl⟩) h
        refine g_if_eq (pc' := 90) hc rfl rfl (fun hx => ?_) (fun hx => ?_)
        · replace h := zwp_t h hx
          refine g_iload (pc' := 99)  hc rfl rfl rfl ?_
          replace h := zws h
          exact h
        · replace h := zwp_f h hx
          refine g_iload (pc' := 92)  hc rfl rfl rfl ?_
          refine g_iconst (pc' := 93) (v := (1 : Int32)) hc rfl zki_1 rfl ?_
          refine g_iadd (pc' := 94)  hc rfl rfl ?_
          refine g_goto hc rfl ?_
          replace h := zws h
          exact h
      refine g_icmp_ne (pc' := 76) hc rfl rfl (fun hx => ?_) (fun hx => ?_)
      · replace h := zwp_f h hx
        refine g_iconst (pc' := 81) (v := (0 : Int32)) hc rfl zki_0 rfl ?_
        replace h := zws h
        exact h
      · replace h := zwp_t h hx
        refine g_iconst (pc' := 77) (v := (1 : Int32)) hc rfl zki_1 rfl ?_
        refine g_goto hc rfl ?_
        replace h := zws h
        exact h
    · replace h := zwp_t h hx
      refine g_iconst (pc' := 59) (v := (1 : Int32)) hc rfl zki_1 rfl ?_
      replace h := zws h
      exact g_ireturn hc rfl rfl rfl (fun _ => ⟨rfl, rfl⟩) h
  · replace h := zwp_f h hx
    refine g_aload_n (pc' := 10)  hc rfl rfl rfl rfl ?_
    refine z_getI (pc' := 13) (v := (I 4 2)) hc rfl rfl rfl sh_4 rfl rfl rfl ?_
    refine g_if_le (pc' := 16) hc rfl rfl (fun hx => ?_) (fun hx => ?_)
    · replace h := zwp_t h hx
      refine g_aload_n (pc' := 49)  hc rfl rfl rfl rfl ?_
      refine z_stat (as := [.ref 1]) (r := []) hc rfl rfl rfl rfl zco_56 rfl rfl rfl ?_
      refine ok_X6_operatorOf_1 (zdp hd rfl) (zwp_mono (zwp_bind h) ?_)
      rintro r32 h
      refine z_po (pc' := 52) (st' := [.int r32]) (v := (some (.int r32))) (L' := [(4, some 1, fun _ => (I 4 1)), (4, some 2, fun _ => (I 4 2)), (4, some 3, fun _ => (I 4 3)), (4, some 4, fun _ => (I 4 4)), (4, some 5, fun _ => (I 4 5)), (5, none, (I 5)), (13, some 2, fun _ => (I 13 2)), (15, none, (I 15))]) (K' := []) zco_56 rfl rfl rfl rfl rfl rfl rfl rfl ?_
      refine g_istore_n (pc' := 53) (ls1 := [some (.ref 4), some (.ref 1), some (.ref 13), some (.int r32), none, none]) hc rfl (zlt rfl) rfl rfl ?_
      refine g_iload_n (pc' := 54)  hc rfl rfl rfl ?_
      refine g_iconst (pc' := 55) (v := (-1 : Int32)) hc rfl zki_m1 rfl ?_
      refine g_icmp_ne (pc' := 58) hc rfl rfl (fun hx => ?_) (fun hx => ?_)
      · replace h := zwp_f h hx
        refine g_iload_n (pc' := 61)  hc rfl rfl rfl ?_
        refine z_stat (as := [.int r32]) (r := []) hc rfl rfl rfl rfl zco_57 rfl rfl rfl ?_
        refine ok_X6_rankOf (zdp hd rfl) (zwp_mono (zwp_bind h) ?_)
        rintro r33 h
        refine z_po (pc' := 64) (st' := [.int r33]) (v := (some (.int r33))) (L' := [(4, some 1, fun _ => (I 4 1)), (4, some 2, fun _ => (I 4 2)), (4, some 3, fun _ => (I 4 3)), (4, some 4, fun _ => (I 4 4)), (4, some 5, fun _ => (I 4 5)), (5, none, (I 5)), (13, some 2, fun _ => (I 13 2)), (15, none, (I 15))]) (K' := []) zco_57 rfl rfl rfl rfl rfl rfl rfl rfl ?_
        refine g_istore (pc' := 66) (ls1 := [some (.ref 4), some (.ref 1), some (.ref 13), some (.int r32), some (.int r33), none]) hc rfl (zlt rfl) rfl rfl ?_
        refine g_iload (pc' := 68)  hc rfl rfl rfl ?_
        refine g_bipush (pc' := 70) (v := (-14 : Int32)) hc rfl zkb_m14 rfl ?_
        refine z_stat (as := [.int (-14 : Int32)]) (r := [.int r33]) hc rfl rfl rfl rfl zco_57 rfl rfl rfl ?_
        refine ok_X6_rankOf (zdp hd rfl) (zwp_mono (zwp_bind h) ?_)
        rintro r34 h
        refine z_po (pc' := 73) (st' := [.int r34, .int r33]) (v := (some (.int r34))) (L' := [(4, some 1, fun _ => (I 4 1)), (4, some 2, fun _ => (I 4 2)), (4, some 3, fun _ => (I 4 3)), (4, some 4, fun _ => (I 4 4)), (4, some 5, fun _ => (I 4 5)), (5, none, (I 5)), (13, some 2, fun _ => (I 13 2)), (15, none, (I 15))]) (K' := []) zco_57 rfl rfl rfl rfl rfl rfl rfl rfl ?_
        refine zjn (G := (fun (j35 : Int32) => pm_ev C_X6_readOperator (d + 1) (pm_call M cost zext d) cost (false, false) 108 0 0 Q 81 [some (.ref 4), some (.ref 1), some (.ref 13), some (.int r32), some (.int r33), none] [.int j35] 0 0 (zS p q I [(4, some 1, fun _ => (I 4 1)), (4, some 2, fun _ => (I 4 2)), (4, some 3, fun _ => (I 4 3)), (4, some 4, fun _ => (I 4 4)), (4, some 5, fun _ => (I 4 5)), (5, none, (I 5)), (13, some 2, fun _ => (I 13 2)), (15, none, (I 15))] J []))) (zwp_bind h) ?_ (fun h => ?_)
        · rintro j35 h
          refine g_istore (pc' := 83) (ls1 := [some (.ref 4), some (.ref 1), some (.ref 13), some (.int r32), some (.int r33), some (.int j35)]) hc rfl (zlt rfl) rfl rfl ?_
          refine g_aload_n (pc' := 84)  hc rfl rfl rfl rfl ?_
          refine g_aload_n (pc' := 85)  hc rfl rfl rfl rfl ?_
          refine g_iload (pc' := 87)  hc rfl rfl rfl ?_
          refine zjn (G := (fun (j36 : Int32) => pm_ev C_X6_readOperator (d + 1) (pm_call M cost zext d) cost (false, false) 108 0 0 Q 99 [some (.ref 4), some (.ref 1), some (.ref 13), some (.int r32), some (.int r33), some (.int j35)] [.int j36, .ref 13, .ref 4] 0 0 (zS p q I [(4, some 1, fun _ => (I 4 1)), (4, some 2, fun _ => (I 4 2)), (4, some 3, fun _ => (I 4 3)), (4, some 4, fun _ => (I 4 4)), (4, some 5, fun _ => (I 4 5)), (5, none, (I 5)), (13, some 2, fun _ => (I 13 2)), (15, none, (I 15))] J []))) (zwp_bind h) ?_ (fun h => ?_)
          · rintro j36 h
            refine z_virt (as := [.ref 13, .int j36]) (a := 4) (r := []) hc rfl rfl rfl rfl sh_4 rfl zco_59 rfl rfl rfl ?_
            refine ok_X6_release_4_13 (zdp hd rfl) (zwp_mono (zwp_bind h) ?_)
            rintro ⟨o37, o38, o39⟩ h
            refine z_po (pc' := 102) (st' := []) (v := none) (L' := [(4, some 1, fun _ => o39), (4, some 2, fun _ => (I 4 2)), (4, some 3, fun _ => (I 4 3)), (4, some 4, fun _ => (I 4 4)), (4, some 5, fun _ => (I 4 5)), (5, none, (I 5)), (13, some 2, fun _ => o38), (15, none, o37)]) (K' := []) zco_59 rfl rfl rfl rfl rfl rfl rfl rfl ?_
            refine g_iload (pc' := 104)  hc rfl rfl rfl ?_
            refine g_if_eq (pc' := 107) hc rfl rfl (fun hx => ?_) (fun hx => ?_)
            · replace h := zwp_t h hx
              refine g_aload_n (pc' := 136)  hc rfl rfl rfl rfl ?_
              refine g_iload_n (pc' := 137)  hc rfl rfl rfl ?_
              refine z_virt (as := [.int r32]) (a := 4) (r := []) hc rfl rfl rfl rfl sh_4 rfl zco_58 rfl rfl rfl ?_
              refine ok_X6_push_4 (zdp hd rfl) (zwp_mono (zwp_bind h) ?_)
              rintro ⟨o40, o41⟩ h
              refine z_po (pc' := 140) (st' := []) (v := none) (L' := [(4, some 1, fun _ => o41), (4, some 2, fun _ => (I 4 2)), (4, some 3, fun _ => (I 4 3)), (4, some 4, fun _ => (I 4 4)), (4, some 5, fun _ => (I 4 5)), (5, none, o40), (13, some 2, fun _ => o38), (15, none, o37)]) (K' := []) zco_58 rfl rfl rfl rfl rfl rfl rfl rfl ?_
              refine g_aload_n (pc' := 141)  hc rfl rfl rfl rfl ?_
              refine g_iload (pc' := 143)  hc rfl rfl rfl ?_
              refine g_bipush (pc' := 145) (v := (-12 : Int32)) hc rfl zkb_m12 rfl ?_
              refine z_stat (as := [.int (-12 : Int32)]) (r := [.int r33, .ref 4]) hc rfl rfl rfl rfl zco_57 rfl rfl rfl ?_
              refine ok_X6_rankOf (zdp hd rfl) (zwp_mono (zwp_bind h) ?_)
              rintro r42 h
              refine z_po (pc' := 148) (st' := [.int r42, .int r33, .ref 4]) (v := (some (.int r42))) (L' := [(4, some 1, fun _ => o41), (4, some 2, fun _ => (I 4 2)), (4, some 3, fun _ => (I 4 3)), (4, some 4, fun _ => (I 4 4)), (4, some 5, fun _ => (I 4 5)), (5, none, o40), (13, some 2, fun _ => o38), (15, none, o37)]) (K' := []) zco_57 rfl rfl rfl rfl rfl rfl rfl rfl ?_
              refine zjn (G := (fun (j43 : Int32) => pm_ev C_X6_readOperator (d + 1) (pm_call M cost zext d) cost (false, false) 108 0 0 Q 156 [some (.ref 4), some (.ref 1), some (.ref 13), some (.int r32), some (.int r33), some (.int j35)] [.int j43, .ref 4] 0 0 (zS p q I [(4, some 1, fun _ => o41), (4, some 2, fun _ => (I 4 2)), (4, some 3, fun _ => (I 4 3)), (4, some 4, fun _ => (I 4 4)), (4, some 5, fun _ => (I 4 5)), (5, none, o40), (13, some 2, fun _ => o38), (15, none, o37)] J []))) (zwp_bind h) ?_ (fun h => ?_)
              · rintro j43 h
                refine z_virt (as := [.int j43]) (a := 4) (r := []) hc rfl rfl rfl rfl sh_4 rfl zco_50 rfl rfl rfl ?_
                refine ok_X6_beginPart_4 (zdp hd rfl) (zwp_mono (zwp_bind h) ?_)
                rintro ⟨o44, o45, o46⟩ h
                refine z_po (pc' := 159) (st' := []) (v := none) (L' := [(4, some 1, fun _ => o41), (4, some 2, fun _ => (I 4 2)), (4, some 3, fun _ => o45), (4, some 4, fun _ => o44), (4, some 5, fun _ => o46), (5, none, o40), (13, some 2, fun _ => o38), (15, none, o37)]) (K' := []) zco_50 rfl rfl rfl rfl rfl rfl rfl rfl ?_
                refine g_iconst (pc' := 160) (v := (0 : Int32)) hc rfl zki_0 rfl ?_
                replace h := zws h
                exact g_ireturn hc rfl rfl rfl (fun _ => ⟨rfl, rfl⟩) h
              refine g_icmp_gt (pc' := 151) hc rfl rfl (fun hx => ?_) (fun hx => ?_)
              · replace h := zwp_t h hx
                refine g_iconst (pc' := 156) (v := (0 : Int32)) hc rfl zki_0 rfl ?_
                replace h := zws h
                exact h
              · replace h := zwp_f h hx
                refine g_iconst (pc' := 152) (v := (1 : Int32)) hc rfl zki_1 rfl ?_
                refine g_goto hc rfl ?_
                replace h := zws h
                exact h
            · replace h := zwp_f h hx
              refine g_aload_n (pc' := 108)  hc rfl rfl rfl rfl ?_
              refine z_getI (pc' := 111) (v := o39) hc rfl rfl rfl sh_4 rfl rfl rfl ?_
              refine g_if_le (pc' := 114) hc rfl rfl (fun hx => ?_) (fun hx => ?_)
              · replace h := zwp_t h hx
                refine g_aload_n (pc' := 136)  hc rfl rfl rfl rfl ?_
                refine g_iload_n (pc' := 137)  hc rfl rfl rfl ?_
                refine z_virt (as := [.int r32]) (a := 4) (r := []) hc rfl rfl rfl rfl sh_4 rfl zco_58 rfl rfl rfl ?_
                refine ok_X6_push_4 (zdp hd rfl) (zwp_mono (zwp_bind h) ?_)
                rintro ⟨o47, o48⟩ h
                refine z_po (pc' := 140) (st' := []) (v := none) (L' := [(4, some 1, fun _ => o48), (4, some 2, fun _ => (I 4 2)), (4, some 3, fun _ => (I 4 3)), (4, some 4, fun _ => (I 4 4)), (4, some 5, fun _ => (I 4 5)), (5, none, o47), (13, some 2, fun _ => o38), (15, none, o37)]) (K' := []) zco_58 rfl rfl rfl rfl rfl rfl rfl rfl ?_
                refine g_aload_n (pc' := 141)  hc rfl rfl rfl rfl ?_
                refine g_iload (pc' := 143)  hc rfl rfl rfl ?_
                refine g_bipush (pc' := 145) (v := (-12 : Int32)) hc rfl zkb_m12 rfl ?_
                refine z_stat (as := [.int (-12 : Int32)]) (r := [.int r33, .ref 4]) hc rfl rfl rfl rfl zco_57 rfl rfl rfl ?_
                refine ok_X6_rankOf (zdp hd rfl) (zwp_mono (zwp_bind h) ?_)
                rintro r49 h
                refine z_po (pc' := 148) (st' := [.int r49, .int r33, .ref 4]) (v := (some (.int r49))) (L' := [(4, some 1, fun _ => o48), (4, some 2, fun _ => (I 4 2)), (4, some 3, fun _ => (I 4 3)), (4, some 4, fun _ => (I 4 4)), (4, some 5, fun _ => (I 4 5)), (5, none, o47), (13, some 2, fun _ => o38), (15, none, o37)]) (K' := []) zco_57 rfl rfl rfl rfl rfl rfl rfl rfl ?_
                refine zjn (G := (fun (j50 : Int32) => pm_ev C_X6_readOperator (d + 1) (pm_call M cost zext d) cost (false, false) 108 0 0 Q 156 [some (.ref 4), some (.ref 1), some (.ref 13), some (.int r32), some (.int r33), some (.int j35)] [.int j50, .ref 4] 0 0 (zS p q I [(4, some 1, fun _ => o48), (4, some 2, fun _ => (I 4 2)), (4, some 3, fun _ => (I 4 3)), (4, some 4, fun _ => (I 4 4)), (4, some 5, fun _ => (I 4 5)), (5, none, o47), (13, some 2, fun _ => o38), (15, none, o37)] J []))) (zwp_bind h) ?_ (fun h => ?_)
                · rintro j50 h
                  refine z_virt (as := [.int j50]) (a := 4) (r := []) hc rfl rfl rfl rfl sh_4 rfl zco_50 rfl rfl rfl ?_
                  refine ok_X6_beginPart_4 (zdp hd rfl) (zwp_mono (zwp_bind h) ?_)
                  rintro ⟨o51, o52, o53⟩ h
                  refine z_po (pc' := 159) (st' := []) (v := none) (L' := [(4, some 1, fun _ => o48), (4, some 2, fun _ => (I 4 2)), (4, some 3, fun _ => o52), (4, some 4, fun _ => o51), (4, some 5, fun _ => o53), (5, none, o47), (13, some 2, fun _ => o38), (15, none, o37)]) (K' := []) zco_50 rfl rfl rfl rfl rfl rfl rfl rfl ?_
                  refine g_iconst (pc' := 160) (v := (0 : Int32)) hc rfl zki_0 rfl ?_
                  replace h := zws h
                  exact g_ireturn hc rfl rfl rfl (fun _ => ⟨rfl, rfl⟩) h
                refine g_icmp_gt (pc' := 151) hc rfl rfl (fun hx => ?_) (fun hx => ?_)
                · replace h := zwp_t h hx
                  refine g_iconst (pc' := 156) (v := (0 : Int32)) hc rfl zki_0 rfl ?_
                  replace h := zws h
                  exact h
                · replace h := zwp_f h hx
                  refine g_iconst (pc' := 152) (v := (1 : Int32)) hc rfl zki_1 rfl ?_
                  refine g_goto hc rfl ?_
                  replace h := zws h
                  exact h
              · replace h := zwp_f h hx
                refine g_aload_n (pc' := 115)  hc rfl rfl rfl rfl ?_
                refine z_getR (pc' := 118)  hc rfl rfl rfl sh_4 rfl rfl ?_
                refine g_aload_n (pc' := 119)  hc rfl rfl rfl rfl ?_
                refine z_getI (pc' := 122) (v := o39) hc rfl rfl rfl sh_4 rfl rfl rfl ?_
                refine g_iconst (pc' := 123) (v := (1 : Int32)) hc rfl zki_1 rfl ?_
                refine g_isub (pc' := 124)  hc rfl rfl ?_
                have hb := (zwp_bnd h).1
                replace h := (zwp_bnd h).2
                refine z_iaload (pc' := 125) (v := (((I 5)) (o39 - (1 : Int32)).toNatClampNeg)) hc rfl rfl sh_5 hb rfl rfl ?_
                refine z_stat (as := [.int (((I 5)) (o39 - (1 : Int32)).toNatClampNeg)]) (r := []) hc rfl rfl rfl rfl zco_57 rfl rfl rfl ?_
                refine ok_X6_rankOf (zdp hd rfl) (zwp_mono (zwp_bind h) ?_)
                rintro r54 h
                refine z_po (pc' := 128) (st' := [.int r54]) (v := (some (.int r54))) (L' := [(4, some 1, fun _ => o39), (4, some 2, fun _ => (I 4 2)), (4, some 3, fun _ => (I 4 3)), (4, some 4, fun _ => (I 4 4)), (4, some 5, fun _ => (I 4 5)), (5, none, (I 5)), (13, some 2, fun _ => o38), (15, none, o37)]) (K' := []) zco_57 rfl rfl rfl rfl rfl rfl rfl rfl ?_
                refine g_iload (pc' := 130)  hc rfl rfl rfl ?_
                refine g_icmp_ne (pc' := 133) hc rfl rfl (fun hx => ?_) (fun hx => ?_)
                · replace h := zwp_f h hx
                  refine g_aload_n (pc' := 136)  hc rfl rfl rfl rfl ?_
                  refine g_iload_n (pc' := 137)  hc rfl rfl rfl ?_
                  refine z_virt (as := [.int r32]) (a := 4) (r := []) hc rfl rfl rfl rfl sh_4 rfl zco_58 rfl rfl rfl ?_
                  refine ok_X6_push_4 (zdp hd rfl) (zwp_mono (zwp_bind h) ?_)
                  rintro ⟨o55, o56⟩ h
                  refine z_po (pc' := 140) (st' := []) (v := none) (L' := [(4, some 1, fun _ => o56), (4, some 2, fun _ => (I 4 2)), (4, some 3, fun _ => (I 4 3)), (4, some 4, fun _ => (I 4 4)), (4, some 5, fun _ => (I 4 5)), (5, none, o55), (13, some 2, fun _ => o38), (15, none, o37)]) (K' := []) zco_58 rfl rfl rfl rfl rfl rfl rfl rfl ?_
                  refine g_aload_n (pc' := 141)  hc rfl rfl rfl rfl ?_
                  refine g_iload (pc' := 143)  hc rfl rfl rfl ?_
                  refine g_bipush (pc' := 145) (v := (-12 : Int32)) hc rfl zkb_m12 rfl ?_
                  refine z_stat (as := [.int (-12 : Int32)]) (r := [.int r33, .ref 4]) hc rfl rfl rfl rfl zco_57 rfl rfl rfl ?_
                  refine ok_X6_rankOf (zdp hd rfl) (zwp_mono (zwp_bind h) ?_)
                  rintro r57 h
                  refine z_po (pc' := 148) (st' := [.int r57, .int r33, .ref 4]) (v := (some (.int r57))) (L' := [(4, some 1, fun _ => o56), (4, some 2, fun _ => (I 4 2)), (4, some 3, fun _ => (I 4 3)), (4, some 4, fun _ => (I 4 4)), (4, some 5, fun _ => (I 4 5)), (5, none, o55), (13, some 2, fun _ => o38), (15, none, o37)]) (K' := []) zco_57 rfl rfl rfl rfl rfl rfl rfl rfl ?_
                  refine zjn (G := (fun (j58 : Int32) => pm_ev C_X6_readOperator (d + 1) (pm_call M cost zext d) cost (false, false) 108 0 0 Q 156 [some (.ref 4), some (.ref 1), some (.ref 13), some (.int r32), some (.int r33), some (.int j35)] [.int j58, .ref 4] 0 0 (zS p q I [(4, some 1, fun _ => o56), (4, some 2, fun _ => (I 4 2)), (4, some 3, fun _ => (I 4 3)), (4, some 4, fun _ => (I 4 4)), (4, some 5, fun _ => (I 4 5)), (5, none, o55), (13, some 2, fun _ => o38), (15, none, o37)] J []))) (zwp_bind h) ?_ (fun h => ?_)
                  · rintro j58 h
                    refine z_virt (as := [.int j58]) (a := 4) (r := []) hc rfl rfl rfl rfl sh_4 rfl zco_50 rfl rfl rfl ?_
                    refine ok_X6_beginPart_4 (zdp hd rfl) (zwp_mono (zwp_bind h) ?_)
                    rintro ⟨o59, o60, o61⟩ h
                    refine z_po (pc' := 159) (st' := []) (v := none) (L' := [(4, some 1, fun _ => o56), (4, some 2, fun _ => (I 4 2)), (4, some 3, fun _ => o60), (4, some 4, fun _ => o59), (4, some 5, fun _ => o61), (5, none, o55), (13, some 2, fun _ => o38), (15, none, o37)]) (K' := []) zco_50 rfl rfl rfl rfl rfl rfl rfl rfl ?_
                    refine g_iconst (pc' := 160) (v := (0 : Int32)) hc rfl zki_0 rfl ?_
                    replace h := zws h
                    exact g_ireturn hc rfl rfl rfl (fun _ => ⟨rfl, rfl⟩) h
                  refine g_icmp_gt (pc' := 151) hc rfl rfl (fun hx => ?_) (fun hx => ?_)
                  · replace h := zwp_t h hx
                    refine g_iconst (pc' := 156) (v := (0 : Int32)) hc rfl zki_0 rfl ?_
                    replace h := zws h
                    exact h
                  · replace h := zwp_f h hx
                    refine g_iconst (pc' := 152) (v := (1 : Int32)) hc rfl zki_1 rfl ?_
                    refine g_goto hc rfl ?_
                    replace h := zws h
                    exact h
                · replace h := zwp_t h hx
                  refine g_iconst (pc' := 134) (v := (1 : Int32)) hc rfl zki_1 rfl ?_
                  replace h := zws h
                  exact g_ireturn hc rfl rfl rfl (fun _ => ⟨rfl, rfl⟩) h
          refine g_if_eq (pc' := 90) hc rfl rfl (fun hx => ?_) (fun hx => ?_)
          · replace h := zwp_t h hx
            refine g_iload (pc' := 99)  hc rfl rfl rfl ?_
            replace h := zws h
            exact h
          · replace h := zwp_f h hx
            refine g_iload (pc' := 92)  hc rfl rfl rfl ?_
            refine g_iconst (pc' := 93) (v := (1 : Int32)) hc rfl zki_1 rfl ?_
            refine g_iadd (pc' := 94)  hc rfl rfl ?_
            refine g_goto hc rfl ?_
            replace h := zws h
            exact h
        refine g_icmp_ne (pc' := 76) hc rfl rfl (fun hx => ?_) (fun hx => ?_)
        · replace h := zwp_f h hx
          refine g_iconst (pc' := 81) (v := (0 : Int32)) hc rfl zki_0 rfl ?_
          replace h := zws h
          exact h
        · replace h := zwp_t h hx
          refine g_iconst (pc' := 77) (v := (1 : Int32)) hc rfl zki_1 rfl ?_
          refine g_goto hc rfl ?_
          replace h := zws h
          exact h
      · replace h := zwp_t h hx
        refine g_iconst (pc' := 59) (v := (1 : Int32)) hc rfl zki_1 rfl ?_
        replace h := zws h
        exact g_ireturn hc rfl rfl rfl (fun _ => ⟨rfl, rfl⟩) h
    · replace h := zwp_f h hx
      refine g_aload_n (pc' := 17)  hc rfl rfl rfl rfl ?_
      refine g_aload_n (pc' := 18)  hc rfl rfl rfl rfl ?_
      refine g_iconst (pc' := 19) (v := (0 : Int32)) hc rfl zki_0 rfl ?_
      refine z_virt (as := [.ref 13, .int (0 : Int32)]) (a := 4) (r := []) hc rfl rfl rfl rfl sh_4 rfl zco_59 rfl rfl rfl ?_
      refine ok_X6_release_4_13 (zdp hd rfl) (zwp_mono (zwp_bind h) ?_)
      rintro ⟨o62, o63, o64⟩ h
      refine z_po (pc' := 22) (st' := []) (v := none) (L' := [(4, some 1, fun _ => o64), (4, some 2, fun _ => (I 4 2)), (4, some 3, fun _ => (I 4 3)), (4, some 4, fun _ => (I 4 4)), (4, some 5, fun _ => (I 4 5)), (5, none, (I 5)), (13, some 2, fun _ => o63), (15, none, o62)]) (K' := []) zco_59 rfl rfl rfl rfl rfl rfl rfl rfl ?_
      refine g_aload_n (pc' := 23)  hc rfl rfl rfl rfl ?_
      refine g_iconst (pc' := 24) (v := (0 : Int32)) hc rfl zki_0 rfl ?_
      refine g_aload_n (pc' := 25)  hc rfl rfl rfl rfl ?_
      refine z_getI (pc' := 28) (v := o64) hc rfl rfl rfl sh_4 rfl rfl rfl ?_
      refine g_iconst (pc' := 29) (v := (1 : Int32)) hc rfl zki_1 rfl ?_
      refine g_isub (pc' := 30)  hc rfl rfl ?_
      refine z_max (pc' := 33)  hc rfl rfl (zdq hd rfl) rfl rfl ?_
      refine z_putI (pc' := 36) (L' := [(4, some 1, fun _ => (if (0 : Int32) < (o64 - (1 : Int32)) then (o64 - (1 : Int32)) else (0 : Int32))), (4, some 2, fun _ => (I 4 2)), (4, some 3, fun _ => (I 4 3)), (4, some 4, fun _ => (I 4 4)), (4, some 5, fun _ => (I 4 5)), (5, none, (I 5)), (13, some 2, fun _ => o63), (15, none, o62)]) hc rfl rfl rfl sh_4 rfl zft_6_1 rfl (fun h => Bool.noConfusion h) rfl rfl rfl ?_
      refine g_aload_n (pc' := 37)  hc rfl rfl rfl rfl ?_
      refine g_dup (pc' := 38)  hc rfl rfl rfl ?_
      refine z_getI (pc' := 41) (v := (I 4 2)) hc rfl rfl rfl sh_4 rfl rfl rfl ?_
      refine g_iconst (pc' := 42) (v := (1 : Int32)) hc rfl zki_1 rfl ?_
      refine g_isub (pc' := 43)  hc rfl rfl ?_
      refine z_putI (pc' := 46) (L' := [(4, some 1, fun _ => (if (0 : Int32) < (o64 - (1 : Int32)) then (o64 - (1 : Int32)) else (0 : Int32))), (4, some 2, fun _ => (((I 4 2)) - (1 : Int32))), (4, some 3, fun _ => (I 4 3)), (4, some 4, fun _ => (I 4 4)), (4, some 5, fun _ => (I 4 5)), (5, none, (I 5)), (13, some 2, fun _ => o63), (15, none, o62)]) hc rfl rfl rfl sh_4 rfl zft_6_2 rfl (fun h => Bool.noConfusion h) rfl rfl rfl ?_
      refine g_iconst (pc' := 47) (v := (0 : Int32)) hc rfl zki_0 rfl ?_
      replace h := zws h
      exact g_ireturn hc rfl rfl rfl (fun _ => ⟨rfl, rfl⟩) h
