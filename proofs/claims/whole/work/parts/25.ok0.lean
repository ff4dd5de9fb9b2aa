set_option maxRecDepth 4000 in
theorem ok_X9_add_1 {p q : Nat} {I : pI} {J : pJ} {a1 : Int32} {Q : pQ} {d : Nat} (hd : 1 ≤ d) (h : zwp (f_X9_add a1 (I 2) (I 1 1)) (fun w => match w with | (o0, o1) => Q (.inl none) (zS p q I [(1, some 1, fun _ => o1), (2, none, o0)] J []))) : pm_call M cost zext d 81 [.ref 1, .int a1] (pm_st 108 (shp p q) I J) Q := by
  obtain ⟨d, rfl⟩ := zd1 hd rfl
  have hc := pm_call_m (M := M) (cost := cost) zext_m d
  refine z_in (L := [(1, some 1, fun _ => (I 1 1)), (2, none, (I 2))]) (K := []) (ls := [some (.ref 1), some (.int a1), none]) zmt_81 zco_81 rfl rfl (zid_s (zid_a zid_n)) zid_n ?_
  delta f_X9_add at h
  refine g_bipush (pc' := 2) (v := (24 : Int32)) hc rfl zkb_24 rfl ?_
  refine g_istore_n (pc' := 3) (ls1 := [some (.ref 1), some (.int a1), some (.int (24 : Int32))]) hc rfl (zlt rfl) rfl rfl ?_
  refine zjn (G := (fun (g : (Nat → Int32) × Int32) => match g with | (y5, y6) => ∀ z4 : Option Value, znl z4 = true → pm_ev C_X9_add (d + 1) (pm_call M cost zext d) cost (false, false) 108 0 0 Q 50 [some (.ref 1), some (.int a1), z4] [] 0 0 (zS p q I [(1, some 1, fun _ => y6), (2, none, y5)] J []))) (zwp_bind h) ?_ (fun h => ?_)
  · rintro ⟨y5, y6⟩ h z4 hz4
    replace h := zws h
    exact g_return hc rfl rfl (fun _ => ⟨rfl, rfl⟩) h
  refine zitr_ev (G := (fun (g : Int32 × (Nat → Int32) × Int32) => match g with | (x1, x2, x3) => pm_ev C_X9_add (d + 1) (pm_call M cost zext d) cost (false, false) 108 0 0 Q 3 [some (.ref 1), some (.int a1), some (.int x1)] [] 0 0 (zS p q I [(1, some 1, fun _ => x3), (2, none, x2)] J []))) ?_ zFU ((24 : Int32), (I 2), (I 1 1)) h
  rintro ⟨x1, x2, x3⟩ h
  refine g_iload_n (pc' := 4)  hc rfl rfl rfl ?_
  refine g_if_lt (pc' := 7) hc rfl rfl (fun hx => ?_) (fun hx => ?_)
  · replace h := zwp_t h hx
    replace h := zwp_r h
    exact h (some (.int x1)) rfl
  · replace h := zwp_f h hx
    refine g_aload_n (pc' := 8)  hc rfl rfl rfl rfl ?_
    refine z_getI (pc' := 11) (v := x3) hc rfl rfl rfl sh_1 rfl rfl rfl ?_
    refine g_sipush (pc' := 14) (v := (700 : Int32)) hc rfl zks_700 rfl ?_
    refine g_icmp_ge (pc' := 17) hc rfl rfl (fun hx => ?_) (fun hx => ?_)
    · replace h := zwp_t h hx
      replace h := zwp_r h
      exact h (some (.int x1)) rfl
    · replace h := zwp_f h hx
      refine g_aload_n (pc' := 18)  hc rfl rfl rfl rfl ?_
      refine z_getR (pc' := 21)  hc rfl rfl rfl sh_1 rfl rfl ?_
      refine g_aload_n (pc' := 22)  hc rfl rfl rfl rfl ?_
      refine z_getI (pc' := 25) (v := x3) hc rfl rfl rfl sh_1 rfl rfl rfl ?_
      refine g_iload_n (pc' := 26)  hc rfl rfl rfl ?_
      refine g_iload_n (pc' := 27)  hc rfl rfl rfl ?_
      refine g_iushr (pc' := 28)  hc rfl rfl ?_
      refine g_sipush (pc' := 31) (v := (255 : Int32)) hc rfl zks_255 rfl ?_
      refine g_iand (pc' := 32)  hc rfl rfl ?_
      refine g_i2c (pc' := 33)  hc rfl rfl ?_
      have hb := (zwp_bnd h).1
      replace h := (zwp_bnd h).2
      refine z_castore (pc' := 34) (g := x2) (L' := [(1, some 1, fun _ => x3), (2, none, (upd x2 x3.toNatClampNeg (vp_nar .char (((((a1.toUInt32 >>> (x1.toUInt32 &&& Int32.toUInt32 31)).toInt32) &&& (255 : Int32)).toUInt32 % 65536).toInt32))))]) hc rfl rfl sh_2 hb rfl rfl rfl rfl ?_
      refine g_aload_n (pc' := 35)  hc rfl rfl rfl rfl ?_
      refine g_dup (pc' := 36)  hc rfl rfl rfl ?_
      refine z_getI (pc' := 39) (v := x3) hc rfl rfl rfl sh_1 rfl rfl rfl ?_
      refine g_iconst (pc' := 40) (v := (1 : Int32)) hc rfl zki_1 rfl ?_
      refine g_iadd (pc' := 41)  hc rfl rfl ?_
      refine z_putI (pc' := 44) (L' := [(1, some 1, fun _ => (x3 + (1 : Int32))), (2, none, (upd x2 x3.toNatClampNeg (vp_nar .char (((((a1.toUInt32 >>> (x1.toUInt32 &&& Int32.toUInt32 31)).toInt32) &&& (255 : Int32)).toUInt32 % 65536).toInt32))))]) hc rfl rfl rfl sh_1 rfl zft_9_1 rfl (fun h => Bool.noConfusion h) rfl rfl rfl ?_
      refine g_iinc (pc' := 47) (ls1 := [some (.ref 1), some (.int a1), some (.int (x1 + (-8 : Int32)))]) hc rfl rfl zki_m8 (zlt rfl) rfl rfl ?_
      refine g_goto hc rfl ?_
      replace h := zwp_l h
      exact h
set_option maxRecDepth 4000 in
theorem ok_X11_feed_0 {p q : Nat} {I : pI} {J : pJ} {a1 : Int32} {a2 : Int32} {a3 : Int32} {a4 : Int32} {a5 : Int32} {Q : pQ} {d : Nat} (hd : 2 ≤ d) (h : zwp (f_X11_feed a1 a2 a3 a4 a5 (I 2) (I 1 1)) (fun w => match w with | (r, o0, o1) => Q (.inl (some (.int r))) (zS p q I [(1, some 1, fun _ => o1), (2, none, o0)] J []))) : pm_call M cost zext d 97 [.ref 0, .int a1, .int a2, .int a3, .int a4, .int a5] (pm_st 108 (shp p q) I J) Q := by
  obtain ⟨d, rfl⟩ := zd1 hd rfl
  have hc := pm_call_m (M := M) (cost := cost) zext_m d
  refine z_in (L := [(1, some 1, fun _ => (I 1 1)), (2, none, (I 2))]) (K := []) (ls := [some (.ref 0), some (.int a1), some (.int a2), some (.int a3), some (.int a4), some (.int a5)]) zmt_97 zco_97 rfl rfl (zid_s (zid_a zid_n)) zid_n ?_
  delta f_X11_feed at h
  refine g_aload_n (pc' := 1)  hc rfl rfl rfl rfl ?_
  refine z_getR (pc' := 4)  hc rfl rfl rfl sh_0 rfl rfl ?_
  refine z_getI (pc' := 7) (v := (I 1 1)) hc rfl rfl rfl sh_1 rfl rfl rfl ?_
  refine g_bipush (pc' := 9) (v := (20 : Int32)) hc rfl zkb_20 rfl ?_
  refine g_iadd (pc' := 10)  hc rfl rfl ?_
  refine g_sipush (pc' := 13) (v := (700 : Int32)) hc rfl zks_700 rfl ?_
  refine g_icmp_le (pc' := 16) hc rfl rfl (fun hx => ?_) (fun hx => ?_)
  · replace h := zwp_t h hx
    refine g_aload_n (pc' := 19)  hc rfl rfl rfl rfl ?_
    refine z_getR (pc' := 22)  hc rfl rfl rfl sh_0 rfl rfl ?_
    refine g_iload_n (pc' := 23)  hc rfl rfl rfl ?_
    refine z_virt (as := [.int a1]) (a := 1) (r := []) hc rfl rfl rfl rfl sh_1 rfl zco_81 rfl rfl rfl ?_
    refine ok_X9_add_1 (zdp hd rfl) (zwp_mono (zwp_bind h) ?_)
    rintro ⟨o1, o2⟩ h
    refine z_po (pc' := 26) (st' := []) (v := none) (L' := [(1, some 1, fun _ => o2), (2, none, o1)]) (K' := []) zco_81 rfl rfl rfl rfl rfl rfl rfl rfl ?_
    refine g_aload_n (pc' := 27)  hc rfl rfl rfl rfl ?_
    refine z_getR (pc' := 30)  hc rfl rfl rfl sh_0 rfl rfl ?_
    refine g_iload_n (pc' := 31)  hc rfl rfl rfl ?_
    refine z_virt (as := [.int a2]) (a := 1) (r := []) hc rfl rfl rfl rfl sh_1 rfl zco_81 rfl rfl rfl ?_
    refine ok_X9_add_1 (zdp hd rfl) (zwp_mono (zwp_bind h) ?_)
    rintro ⟨o3, o4⟩ h
    refine z_po (pc' := 34) (st' := []) (v := none) (L' := [(1, some 1, fun _ => o4), (2, none, o3)]) (K' := []) zco_81 rfl rfl rfl rfl rfl rfl rfl rfl ?_
    refine g_aload_n (pc' := 35)  hc rfl rfl rfl rfl ?_
    refine z_getR (pc' := 38)  hc rfl rfl rfl sh_0 rfl rfl ?_
    refine g_iload_n (pc' := 39)  hc rfl rfl rfl ?_
    refine z_virt (as := [.int a3]) (a := 1) (r := []) hc rfl rfl rfl rfl sh_1 rfl zco_81 rfl rfl rfl ?_
    refine ok_X9_add_1 (zdp hd rfl) (zwp_mono (zwp_bind h) ?_)
    rintro ⟨o5, o6⟩ h
    refine z_po (pc' := 42) (st' := []) (v := none) (L' := [(1, some 1, fun _ => o6), (2, none, o5)]) (K' := []) zco_81 rfl rfl rfl rfl rfl rfl rfl rfl ?_
    refine g_aload_n (pc' := 43)  hc rfl rfl rfl rfl ?_
    refine z_getR (pc' := 46)  hc rfl rfl rfl sh_0 rfl rfl ?_
    refine g_iload (pc' := 48)  hc rfl rfl rfl ?_
    refine z_virt (as := [.int a4]) (a := 1) (r := []) hc rfl rfl rfl rfl sh_1 rfl zco_81 rfl rfl rfl ?_
    refine ok_X9_add_1 (zdp hd rfl) (zwp_mono (zwp_bind h) ?_)
    rintro ⟨o7, o8⟩ h
    refine z_po (pc' := 51) (st' := []) (v := none) (L' := [(1, some 1, fun _ => o8), (2, none, o7)]) (K' := []) zco_81 rfl rfl rfl rfl rfl rfl rfl rfl ?_
    refine g_aload_n (pc' := 52)  hc rfl rfl rfl rfl ?_
    refine z_getR (pc' := 55)  hc rfl rfl rfl sh_0 rfl rfl ?_
    refine g_iload (pc' := 57)  hc rfl rfl rfl ?_
    refine z_virt (as := [.int a5]) (a := 1) (r := []) hc rfl rfl rfl rfl sh_1 rfl zco_81 rfl rfl rfl ?_
    refine ok_X9_add_1 (zdp hd rfl) (zwp_mono (zwp_bind h) ?_)
    rintro ⟨o9, o10⟩ h
    refine z_po (pc' := 60) (st' := []) (v := none) (L' := [(1, some 1, fun _ => o10), (2, none, o9)]) (K' := []) zco_81 rfl rfl rfl rfl rfl rfl rfl rfl ?_
    refine g_aload_n (pc' := 61)  hc rfl rfl rfl rfl ?_
    refine z_getR (pc' := 64)  hc rfl rfl rfl sh_0 rfl rfl ?_
    refine z_getI (pc' := 67) (v := o10) hc rfl rfl rfl sh_1 rfl rfl rfl ?_
    replace h := zws h
    exact g_ireturn hc rfl rfl rfl (fun _ => ⟨rfl, rfl⟩) h
  · replace h := zwp_f h hx
    refine g_iconst (pc' := 17) (v := (-1 : Int32)) hc rfl zki_m1 rfl ?_
    replace h := zws h
    exact g_ireturn hc rfl rfl rfl (fun _ => ⟨rfl, rfl⟩) h
set_option maxRecDepth 4000 in
theorem ok_X11_fault_0 {p q : Nat} {I : pI} {J : pJ} {Q : pQ} {d : Nat} (hd : 1 ≤ d) (h : zwp (f_X11_fault (I 0 2)) (fun r => Q (.inl (some (.int r))) (zS p q I [] J []))) : pm_call M cost zext d 99 [.ref 0] (pm_st 108 (shp p q) I J) Q := by
  obtain ⟨d, rfl⟩ := zd1 hd rfl
  have hc := pm_call_m (M := M) (cost := cost) zext_m d
  refine z_in (L := []) (K := []) (ls := [some (.ref 0)]) zmt_99 zco_99 rfl rfl zid_n zid_n ?_
  delta f_X11_fault at h
  refine g_aload_n (pc' := 1)  hc rfl rfl rfl rfl ?_
  refine z_getI (pc' := 4) (v := (I 0 2)) hc rfl rfl rfl sh_0 rfl rfl rfl ?_
  replace h := zws h
  exact g_ireturn hc rfl rfl rfl (fun _ => ⟨rfl, rfl⟩) h
set_option maxRecDepth 4000 in
theorem ok_X11_refuseAct_0 {p q : Nat} {I : pI} {J : pJ} {Q : pQ} {d : Nat} (hd : 1 ≤ d) (h : zwp (f_X11_refuseAct (I 6)) (fun w => match w with | (r, o0) => Q (.inl (some (.int r))) (zS p q I [(6, none, o0)] J []))) : pm_call M cost zext d 137 [.ref 0] (pm_st 108 (shp p q) I J) Q := by
  obtain ⟨d, rfl⟩ := zd1 hd rfl
  have hc := pm_call_m (M := M) (cost := cost) zext_m d
  refine z_in (L := [(6, none, (I 6))]) (K := []) (ls := [some (.ref 0)]) zmt_137 zco_137 rfl rfl (zid_a zid_n) zid_n ?_
  delta f_X11_refuseAct at h
  refine g_aload_n (pc' := 1)  hc rfl rfl rfl rfl ?_
  refine z_getR (pc' := 4)  hc rfl rfl rfl sh_0 rfl rfl ?_
  refine g_iconst (pc' := 5) (v := (1 : Int32)) hc rfl zki_1 rfl ?_
  refine g_dup2 (pc' := 6)  hc rfl rfl rfl rfl ?_
  refine z_iaload (pc' := 7) (v := (((I 6)) 1)) hc rfl rfl sh_6 (by decide) rfl rfl ?_
  refine g_iconst (pc' := 8) (v := (1 : Int32)) hc rfl zki_1 rfl ?_
  refine g_iadd (pc' := 9)  hc rfl rfl ?_
  refine z_iastore (pc' := 10) (g := (I 6)) (L' := [(6, none, (upd ((I 6)) 1 ((((I 6)) 1) + (1 : Int32))))]) hc rfl rfl sh_6 (by decide) rfl rfl rfl rfl ?_
  refine g_iconst (pc' := 11) (v := (-1 : Int32)) hc rfl zki_m1 rfl ?_
  replace h := zws h
  exact g_ireturn hc rfl rfl rfl (fun _ => ⟨rfl, rfl⟩) h
set_option maxRecDepth 4000 in
theorem ok_X8_saveTo_31_37 {p q : Nat} {I : pI} {J : pJ} {a2 : Int32} {Q : pQ} {d : Nat} (hd : 3 ≤ d) (h : zwp (f_X8_saveTo a2 1120 (I 37) (I 32) (I 34) (I 31 0) (I 31 1) (I 33) (J 31 2)) (fun o0 => Q (.inl none) (zS p q I [(37, none, o0)] J []))) : pm_call M cost zext d 69 [.ref 31, .ref 37, .int a2] (pm_st 108 (shp p q) I J) Q := by
  obtain ⟨d, rfl⟩ := zd1 hd rfl
  have hc := pm_call_m (M := M) (cost := cost) zext_m d
  refine z_in (L := [(37, none, (I 37))]) (K := []) (ls := [some (.ref 31), some (.ref 37), some (.int a2)]) zmt_69 zco_69 rfl rfl (zid_a zid_n) zid_n ?_
  delta f_X8_saveTo at h
  refine g_iload_n (pc' := 1)  hc rfl rfl rfl ?_
  refine g_if_lt (pc' := 4) hc rfl rfl (fun hx => ?_) (fun hx => ?_)
  · replace h := zwp_t h hx
    replace h := zws h
    exact g_return hc rfl rfl (fun _ => ⟨rfl, rfl⟩) h
  · replace h := zwp_f h hx
    refine g_iload_n (pc' := 5)  hc rfl rfl rfl ?_
    refine g_bipush (pc' := 7) (v := (28 : Int32)) hc rfl zkb_28 rfl ?_
    refine g_iadd (pc' := 8)  hc rfl rfl ?_
    refine g_aload_n (pc' := 9)  hc rfl rfl rfl rfl ?_
    refine z_alen (pc' := 10) (v := (Int32.ofNat 1120)) hc rfl rfl sh_37 ⟨by decide, by decide⟩ rfl rfl ?_
    refine g_icmp_le (pc' := 13) hc rfl rfl (fun hx => ?_) (fun hx => ?_)
    · replace h := zwp_t h hx
      refine g_aload_n (pc' := 15)  hc rfl rfl rfl rfl ?_
      refine g_iload_n (pc' := 16)  hc rfl rfl rfl ?_
      refine g_aload_n (pc' := 17)  hc rfl rfl rfl rfl ?_
      refine z_getI (pc' := 20) (v := (I 31 0)) hc rfl rfl rfl sh_31 rfl rfl rfl ?_
      have hb := (zwp_bnd h).1
      replace h := (zwp_bnd h).2
      refine z_iastore (pc' := 21) (g := (I 37)) (L' := [(37, none, (upd ((I 37)) a2.toNatClampNeg ((I 31 0))))]) hc rfl rfl sh_37 hb rfl rfl rfl rfl ?_
      refine g_aload_n (pc' := 22)  hc rfl rfl rfl rfl ?_
      refine g_iload_n (pc' := 23)  hc rfl rfl rfl ?_
      refine g_iconst (pc' := 24) (v := (1 : Int32)) hc rfl zki_1 rfl ?_
      refine g_iadd (pc' := 25)  hc rfl rfl ?_
      refine g_aload_n (pc' := 26)  hc rfl rfl rfl rfl ?_
      refine z_getI (pc' := 29) (v := (I 31 1)) hc rfl rfl rfl sh_31 rfl rfl rfl ?_
      have hb := (zwp_bnd h).1
      replace h := (zwp_bnd h).2
      refine z_iastore (pc' := 30) (g := (upd ((I 37)) a2.toNatClampNeg ((I 31 0)))) (L' := [(37, none, (upd (upd ((I 37)) a2.toNatClampNeg ((I 31 0))) (a2 + (1 : Int32)).toNatClampNeg ((I 31 1))))]) hc rfl rfl sh_37 hb rfl rfl rfl rfl ?_
      refine g_aload_n (pc' := 31)  hc rfl rfl rfl rfl ?_
      refine g_iload_n (pc' := 32)  hc rfl rfl rfl ?_
      refine g_iconst (pc' := 33) (v := (2 : Int32)) hc rfl zki_2 rfl ?_
      refine g_iadd (pc' := 34)  hc rfl rfl ?_
      refine g_aload_n (pc' := 35)  hc rfl rfl rfl rfl ?_
      refine z_getJ (pc' := 38) (v := (J 31 2)) hc rfl rfl rfl sh_31 rfl rfl rfl ?_
      refine g_l2i (pc' := 39)  hc rfl rfl ?_
      have hb := (zwp_bnd h).1
      replace h := (zwp_bnd h).2
      refine z_iastore (pc' := 40) (g := (upd (upd ((I 37)) a2.toNatClampNeg ((I 31 0))) (a2 + (1 : Int32)).toNatClampNeg ((I 31 1)))) (L' := [(37, none, (upd (upd (upd ((I 37)) a2.toNatClampNeg ((I 31 0))) (a2 + (1 : Int32)).toNatClampNeg ((I 31 1))) (a2 + (2 : Int32)).toNatClampNeg (((J 31 2)).toInt32)))]) hc rfl rfl sh_37 hb rfl rfl rfl rfl ?_
      refine g_aload_n (pc' := 41)  hc rfl rfl rfl rfl ?_
      refine g_iload_n (pc' := 42)  hc rfl rfl rfl ?_
      refine g_iconst (pc' := 43) (v := (3 : Int32)) hc rfl zki_3 rfl ?_
      refine g_iadd (pc' := 44)  hc rfl rfl ?_
      refine g_aload_n (pc' := 45)  hc rfl rfl rfl rfl ?_
      refine z_getJ (pc' := 48) (v := (J 31 2)) hc rfl rfl rfl sh_31 rfl rfl rfl ?_
      refine g_bipush (pc' := 50) (v := (32 : Int32)) hc rfl zkb_32 rfl ?_
      refine g_lushr (pc' := 51)  hc rfl rfl ?_
      refine g_l2i (pc' := 52)  hc rfl rfl ?_
      have hb := (zwp_bnd h).1
      replace h := (zwp_bnd h).2
      refine z_iastore (pc' := 53) (g := (upd (upd (upd ((I 37)) a2.toNatClampNeg ((I 31 0))) (a2 + (1 : Int32)).toNatClampNeg ((I 31 1))) (a2 + (2 : Int32)).toNatClampNeg (((J 31 2)).toInt32))) (L' := [(37, none, (upd (upd (upd (upd ((I 37)) a2.toNatClampNeg ((I 31 0))) (a2 + (1 : Int32)).toNatClampNeg ((I 31 1))) (a2 + (2 : Int32)).toNatClampNeg (((J 31 2)).toInt32)) (a2 + (3 : Int32)).toNatClampNeg (((((J 31 2)).toUInt64 >>> ((32 : Int32).toInt64.toUInt64 &&& Int64.toUInt64 63)).toInt64).toInt32)))]) hc rfl rfl sh_37 hb rfl rfl rfl rfl ?_
      refine g_aload_n (pc' := 54)  hc rfl rfl rfl rfl ?_
      refine z_getR (pc' := 57)  hc rfl rfl rfl sh_31 rfl rfl ?_
      refine g_iconst (pc' := 58) (v := (0 : Int32)) hc rfl zki_0 rfl ?_
      refine g_aload_n (pc' := 59)  hc rfl rfl rfl rfl ?_
      refine g_iload_n (pc' := 60)  hc rfl rfl rfl ?_
      refine g_iconst (pc' := 61) (v := (4 : Int32)) hc rfl zki_4 rfl ?_
      refine g_iadd (pc' := 62)  hc rfl rfl ?_
      refine g_bipush (pc' := 64) (v := (8 : Int32)) hc rfl zkb_8 rfl ?_
      have hb := (zwp_cpg h).1
      replace h := (zwp_cpg h).2
      refine z_acpy (pc' := 67) (f := (I 32)) (g := (upd (upd (upd (upd ((I 37)) a2.toNatClampNeg ((I 31 0))) (a2 + (1 : Int32)).toNatClampNeg ((I 31 1))) (a2 + (2 : Int32)).toNatClampNeg (((J 31 2)).toInt32)) (a2 + (3 : Int32)).toNatClampNeg (((((J 31 2)).toUInt64 >>> ((32 : Int32).toInt64.toUInt64 &&& Int64.toUInt64 63)).toInt64).toInt32))) (L' := [(37, none, (va_cpy ((I 32)) (upd (upd (upd (upd ((I 37)) a2.toNatClampNeg ((I 31 0))) (a2 + (1 : Int32)).toNatClampNeg ((I 31 1))) (a2 + (2 : Int32)).toNatClampNeg (((J 31 2)).toInt32)) (a2 + (3 : Int32)).toNatClampNeg (((((J 31 2)).toUInt64 >>> ((32 : Int32).toInt64.toUInt64 &&& Int64.toUInt64 63)).toInt64).toInt32)) 0 (a2 + (4 : Int32)).toNatClampNeg 8))]) hc rfl rfl (zdq hd rfl) rfl sh_32 rfl sh_37 hb rfl rfl rfl rfl rfl rfl ?_
      refine g_aload_n (pc' := 68)  hc rfl rfl rfl rfl ?_
      refine z_getR (pc' := 71)  hc rfl rfl rfl sh_31 rfl rfl ?_
      refine g_iconst (pc' := 72) (v := (0 : Int32)) hc rfl zki_0 rfl ?_
      refine g_aload_n (pc' := 73)  hc rfl rfl rfl rfl ?_
      refine g_iload_n (pc' := 74)  hc rfl rfl rfl ?_
      refine g_iconst (pc' := 75) (v := (4 : Int32)) hc rfl zki_4 rfl ?_
      refine g_iadd (pc' := 76)  hc rfl rfl ?_
      refine g_bipush (pc' := 78) (v := (8 : Int32)) hc rfl zkb_8 rfl ?_
      refine g_iadd (pc' := 79)  hc rfl rfl ?_
      refine g_bipush (pc' := 81) (v := (8 : Int32)) hc rfl zkb_8 rfl ?_
      have hb := (zwp_cpg h).1
      replace h := (zwp_cpg h).2
      refine z_acpy (pc' := 84) (f := (I 33)) (g := (va_cpy ((I 32)) (upd (upd (upd (upd ((I 37)) a2.toNatClampNeg ((I 31 0))) (a2 + (1 : Int32)).toNatClampNeg ((I 31 1))) (a2 + (2 : Int32)).toNatClampNeg (((J 31 2)).toInt32)) (a2 + (3 : Int32)).toNatClampNeg (((((J 31 2)).toUInt64 >>> ((32 : Int32).toInt64.toUInt64 &&& Int64.toUInt64 63)).toInt64).toInt32)) 0 (a2 + (4 : Int32)).toNatClampNeg 8)) (L' := [(37, none, (va_cpy ((I 33)) (va_cpy ((I 32)) (upd (upd (upd (upd ((I 37)) a2.toNatClampNeg ((I 31 0))) (a2 + (1 : Int32)).toNatClampNeg ((I 31 1))) (a2 + (2 : Int32)).toNatClampNeg (((J 31 2)).toInt32)) (a2 + (3 : Int32)).toNatClampNeg (((((J 31 2)).toUInt64 >>> ((32 : Int32).toInt64.toUInt64 &&& Int64.toUInt64 63)).toInt64).toInt32)) 0 (a2 + (4 : Int32)).toNatClampNeg 8) 0 ((a2 + (4 : Int32)) + (8 : Int32)).toNatClampNeg 8))]) hc rfl rfl (zdq hd rfl) rfl sh_33 rfl sh_37 hb rfl rfl rfl rfl rfl rfl ?_
      refine g_aload_n (pc' := 85)  hc rfl rfl rfl rfl ?_
      refine z_getR (pc' := 88)  hc rfl rfl rfl sh_31 rfl rfl ?_
      refine g_iconst (pc' := 89) (v := (0 : Int32)) hc rfl zki_0 rfl ?_
      refine g_aload_n (pc' := 90)  hc rfl rfl rfl rfl ?_
      refine g_iload_n (pc' := 91)  hc rfl rfl rfl ?_
      refine g_iconst (pc' := 92) (v := (4 : Int32)) hc rfl zki_4 rfl ?_
      refine g_iadd (pc' := 93)  hc rfl rfl ?_
      refine g_bipush (pc' := 95) (v := (16 : Int32)) hc rfl zkb_16 rfl ?_
      refine g_iadd (pc' := 96)  hc rfl rfl ?_
      refine g_bipush (pc' := 98) (v := (8 : Int32)) hc rfl zkb_8 rfl ?_
      have hb := (zwp_cpg h).1
      replace h := (zwp_cpg h).2
      refine z_acpy (pc' := 101) (f := (I 34)) (g := (va_cpy ((I 33)) (va_cpy ((I 32)) (upd (upd (upd (upd ((I 37)) a2.toNatClampNeg ((I 31 0))) (a2 + (1 : Int32)).toNatClampNeg ((I 31 1))) (a2 + (2 : Int32)).toNatClampNeg (((J 31 2)).toInt32)) (a2 + (3 : Int32)).toNatClampNeg (((((J 31 2)).toUInt64 >>> ((32 : Int32).toInt64.toUInt64 &&& Int64.toUInt64 63)).toInt64).toInt32)) 0 (a2 + (4 : Int32)).toNatClampNeg 8) 0 ((a2 + (4 : Int32)) + (8 : Int32)).toNatClampNeg 8)) (L' := [(37, none, (va_cpy ((I 34)) (va_cpy ((I 33)) (va_cpy ((I 32)) (upd (upd (upd (upd ((I 37)) a2.toNatClampNeg ((I 31 0))) (a2 + (1 : Int32)).toNatClampNeg ((I 31 1))) (a2 + (2 : Int32)).toNatClampNeg (((J 31 2)).toInt32)) (a2 + (3 : Int32)).toNatClampNeg (((((J 31 2)).toUInt64 >>> ((32 : Int32).toInt64.toUInt64 &&& Int64.toUInt64 63)).toInt64).toInt32)) 0 (a2 + (4 : Int32)).toNatClampNeg 8) 0 ((a2 + (4 : Int32)) + (8 : Int32)).toNatClampNeg 8) 0 ((a2 + (4 : Int32)) + (16 : Int32)).toNatClampNeg 8))]) hc rfl rfl (zdq hd rfl) rfl sh_34 rfl sh_37 hb rfl rfl rfl rfl rfl rfl ?_
      replace h := zws h
      exact g_return hc rfl rfl (fun _ => ⟨rfl, rfl⟩) h
    · replace h := zwp_f h hx
      replace h := zws h
      exact g_return hc rfl rfl (fun _ => ⟨rfl, rfl⟩) h
set_option maxRecDepth 4000 in
theorem ok_X0_keep_36_31 {p q : Nat} {I : pI} {J : pJ} {Q : pQ} {d : Nat} (hd : 4 ≤ d) (h : zwp (f_X0_keep (I 36 2) (I 36 1) (I 37) (I 32) (I 34) (I 31 0) (I 31 1) (I 33) (J 31 2)) (fun w => match w with | (o0, o1, o2) => Q (.inl none) (zS p q I [(36, some 1, fun _ => o1), (36, some 2, fun _ => o0), (37, none, o2)] J []))) : pm_call M cost zext d 3 [.ref 36, .ref 31] (pm_st 108 (shp p q) I J) Q := by
  obtain ⟨d, rfl⟩ := zd1 hd rfl
  have hc := pm_call_m (M := M) (cost := cost) zext_m d
  refine z_in (L := [(36, some 1, fun _ => (I 36 1)), (36, some 2, fun _ => (I 36 2)), (37, none, (I 37))]) (K := []) (ls := [some (.ref 36), some (.ref 31)]) zmt_3 zco_3 rfl rfl (zid_s (zid_s (zid_a zid_n))) zid_n ?_
  delta f_X0_keep at h
  refine g_aload_n (pc' := 1)  hc rfl rfl rfl rfl ?_
  refine g_aload_n (pc' := 2)  hc rfl rfl rfl rfl ?_
  refine z_getR (pc' := 5)  hc rfl rfl rfl sh_36 rfl rfl ?_
  refine g_aload_n (pc' := 6)  hc rfl rfl rfl rfl ?_
  refine z_getI (pc' := 9) (v := (I 36 1)) hc rfl rfl rfl sh_36 rfl rfl rfl ?_
  refine g_bipush (pc' := 11) (v := (28 : Int32)) hc rfl zkb_28 rfl ?_
  refine g_imul (pc' := 12)  hc rfl rfl ?_
  refine z_virt (as := [.ref 37, .int (((I 36 1)) * (28 : Int32))]) (a := 31) (r := []) hc rfl rfl rfl rfl sh_31 rfl zco_69 rfl rfl rfl ?_
  refine ok_X8_saveTo_31_37 (zdp hd rfl) (zwp_mono (zwp_bind h) ?_)
  rintro o1 h
  refine z_po (pc' := 15) (st' := []) (v := none) (L' := [(36, some 1, fun _ => (I 36 1)), (36, some 2, fun _ => (I 36 2)), (37, none, o1)]) (K' := []) zco_69 rfl rfl rfl rfl rfl rfl rfl rfl ?_
  refine g_aload_n (pc' := 16)  hc rfl rfl rfl rfl ?_
  refine g_aload_n (pc' := 17)  hc rfl rfl rfl rfl ?_
  refine z_getI (pc' := 20) (v := (I 36 1)) hc rfl rfl rfl sh_36 rfl rfl rfl ?_
  refine g_iconst (pc' := 21) (v := (1 : Int32)) hc rfl zki_1 rfl ?_
  refine g_iadd (pc' := 22)  hc rfl rfl ?_
  refine g_bipush (pc' := 24) (v := (40 : Int32)) hc rfl zkb_40 rfl ?_
  refine g_irem (pc' := 25)  hc rfl (by decide) rfl ?_
  refine z_putI (pc' := 28) (L' := [(36, some 1, fun _ => ((((I 36 1)) + (1 : Int32)) - (((I 36 1)) + (1 : Int32)) / (40 : Int32) * (40 : Int32))), (36, some 2, fun _ => (I 36 2)), (37, none, o1)]) hc rfl rfl rfl sh_36 rfl zft_0_1 rfl (fun h => Bool.noConfusion h) rfl rfl rfl ?_
  refine g_aload_n (pc' := 29)  hc rfl rfl rfl rfl ?_
  refine g_bipush (pc' := 31) (v := (40 : Int32)) hc rfl zkb_40 rfl ?_
  refine g_aload_n (pc' := 32)  hc rfl rfl rfl rfl ?_
  refine z_getI (pc' := 35) (v := (I 36 2)) hc rfl rfl rfl sh_36 rfl rfl rfl ?_
  refine g_iconst (pc' := 36) (v := (1 : Int32)) hc rfl zki_1 rfl ?_
  refine g_iadd (pc' := 37)  hc rfl rfl ?_
  refine z_min (pc' := 40)  hc rfl rfl (zdq hd rfl) rfl rfl ?_
  refine z_putI (pc' := 43) (L' := [(36, some 1, fun _ => ((((I 36 1)) + (1 : Int32)) - (((I 36 1)) + (1 : Int32)) / (40 : Int32) * (40 : Int32))), (36, some 2, fun _ => (if (((I 36 2)) + (1 : Int32)) < (40 : Int32) then (((I 36 2)) + (1 : Int32)) else (40 : Int32))), (37, none, o1)]) hc rfl rfl rfl sh_36 rfl zft_0_2 rfl (fun h => Bool.noConfusion h) rfl rfl rfl ?_
  replace h := zws h
  exact g_return hc rfl rfl (fun _ => ⟨rfl, rfl⟩) h
set_option maxRecDepth 4000 in
theorem ok_X3_lightOf_7 {p q : Nat} {I : pI} {J : pJ} {a1 : Int32} {Q : pQ} {d : Nat} (hd : 1 ≤ d) (h : zwp (f_X3_lightOf a1 (I 12) (I 7 9)) (fun r => Q (.inl (some (.int r))) (zS p q I [] J []))) : pm_call M cost zext d 22 [.ref 7, .int a1] (pm_st 108 (shp p q) I J) Q := by
  obtain ⟨d, rfl⟩ := zd1 hd rfl
  have hc := pm_call_m (M := M) (cost := cost) zext_m d
  refine z_in (L := []) (K := []) (ls := [some (.ref 7), some (.int a1)]) zmt_22 zco_22 rfl rfl zid_n zid_n ?_
  delta f_X3_lightOf at h
  refine g_aload_n (pc' := 1)  hc rfl rfl rfl rfl ?_
  refine z_getI (pc' := 4) (v := (I 7 9)) hc rfl rfl rfl sh_7 rfl rfl rfl ?_
  refine g_if_le (pc' := 7) hc rfl rfl (fun hx => ?_) (fun hx => ?_)
  · replace h := zwp_t h hx
    refine g_iconst (pc' := 22) (v := (5 : Int32)) hc rfl zki_5 rfl ?_
    replace h := zws h
    exact g_ireturn hc rfl rfl rfl (fun _ => ⟨rfl, rfl⟩) h
  · replace h := zwp_f h hx
    refine g_aload_n (pc' := 8)  hc rfl rfl rfl rfl ?_
    refine z_getR (pc' := 11)  hc rfl rfl rfl sh_7 rfl rfl ?_
    refine g_iload_n (pc' := 12)  hc rfl rfl rfl ?_
    refine g_aload_n (pc' := 13)  hc rfl rfl rfl rfl ?_
    refine z_getI (pc' := 16) (v := (I 7 9)) hc rfl rfl rfl sh_7 rfl rfl rfl ?_
    have hz := (zwp_nz h).1
    replace h := (zwp_nz h).2
    refine g_irem (pc' := 17)  hc rfl hz rfl ?_
    have hb := (zwp_bnd h).1
    replace h := (zwp_bnd h).2
    refine z_iaload (pc' := 18) (v := (((I 12)) (a1 - a1 / ((I 7 9)) * ((I 7 9))).toNatClampNeg)) hc rfl rfl sh_12 hb rfl rfl ?_
    refine g_goto hc rfl ?_
    replace h := zws h
    exact g_ireturn hc rfl rfl rfl (fun _ => ⟨rfl, rfl⟩) h
set_option maxRecDepth 4000 in
theorem ok_X3_isDull_7 {p q : Nat} {I : pI} {J : pJ} {a1 : Int32} {Q : pQ} {d : Nat} (hd : 2 ≤ d) (h : zwp (f_X3_isDull a1 (I 7 12) (I 12) (I 7 9)) (fun r => Q (.inl (some (.int r))) (zS p q I [] J []))) : pm_call M cost zext d 23 [.ref 7, .int a1] (pm_st 108 (shp p q) I J) Q := by
  obtain ⟨d, rfl⟩ := zd1 hd rfl
  have hc := pm_call_m (M := M) (cost := cost) zext_m d
  refine z_in (L := []) (K := []) (ls := [some (.ref 7), some (.int a1)]) zmt_23 zco_23 rfl rfl zid_n zid_n ?_
  delta f_X3_isDull at h
  refine g_aload_n (pc' := 1)  hc rfl rfl rfl rfl ?_
  refine g_iload_n (pc' := 2)  hc rfl rfl rfl ?_
  refine z_virt (as := [.int a1]) (a := 7) (r := []) hc rfl rfl rfl rfl sh_7 rfl zco_22 rfl rfl rfl ?_
  refine ok_X3_lightOf_7 (zdp hd rfl) (zwp_mono (zwp_bind h) ?_)
  rintro r1 h
  refine z_po (pc' := 5) (st' := [.int r1]) (v := (some (.int r1))) (L' := []) (K' := []) zco_22 rfl rfl rfl rfl rfl rfl rfl rfl ?_
  refine g_aload_n (pc' := 6)  hc rfl rfl rfl rfl ?_
  refine z_getI (pc' := 9) (v := (I 7 12)) hc rfl rfl rfl sh_7 rfl rfl rfl ?_
  refine g_icmp_ge (pc' := 12) hc rfl rfl (fun hx => ?_) (fun hx => ?_)
  · replace h := zwp_t h hx
    refine g_iconst (pc' := 17) (v := (0 : Int32)) hc rfl zki_0 rfl ?_
    replace h := zws h
    exact g_ireturn hc rfl rfl rfl (fun _ => ⟨rfl, rfl⟩) h
  · replace h := zwp_f h hx
    refine g_iconst (pc' := 13) (v := (1 : Int32)) hc rfl zki_1 rfl ?_
    refine g_goto hc rfl ?_
    replace h := zws h
    exact g_ireturn hc rfl rfl rfl (fun _ => ⟨rfl, rfl⟩) h
set_option maxRecDepth 4000 in
theorem ok_X5_isTold_16 {p q : Nat} {I : pI} {J : pJ} {Q : pQ} {d : Nat} (hd : 1 ≤ d) (h : zwp (f_X5_isTold (I 16 2)) (fun r => Q (.inl (some (.int r))) (zS p q I [] J []))) : pm_call M cost zext d 43 [.ref 16] (pm_st 108 (shp p q) I J) Q := by
  obtain ⟨d, rfl⟩ := zd1 hd rfl
  have hc := pm_call_m (M := M) (cost := cost) zext_m d
  refine z_in (L := []) (K := []) (ls := [some (.ref 16)]) zmt_43 zco_43 rfl rfl zid_n zid_n ?_
  delta f_X5_isTold at h
  refine g_aload_n (pc' := 1)  hc rfl rfl rfl rfl ?_
  refine z_getI (pc' := 4) (v := (I 16 2)) hc rfl rfl rfl sh_16 rfl rfl rfl ?_
  refine g_if_le (pc' := 7) hc rfl rfl (fun hx => ?_) (fun hx => ?_)
  · replace h := zwp_t h hx
    refine g_iconst (pc' := 12) (v := (0 : Int32)) hc rfl zki_0 rfl ?_
    replace h := zws h
    exact g_ireturn hc rfl rfl rfl (fun _ => ⟨rfl, rfl⟩) h
  · replace h := zwp_f h hx
    refine g_iconst (pc' := 8) (v := (1 : Int32)) hc rfl zki_1 rfl ?_
    refine g_goto hc rfl ?_
    replace h := zws h
    exact g_ireturn hc rfl rfl rfl (fun _ => ⟨rfl, rfl⟩) h
set_option maxRecDepth 4000 in
theorem ok_X8_othersWith_31 {p q : Nat} {I : pI} {J : pJ} {a1 : Int32} {Q : pQ} {d : Nat} (hd : 1 ≤ d) (h : zwp (f_X8_othersWith a1 (I 32) (I 31 3)) (fun r => Q (.inl (some (.int r))) (zS p q I [] J []))) : pm_call M cost zext d 73 [.ref 31, .int a1] (pm_st 108 (shp p q) I J) Q := by
  obtain ⟨d, rfl⟩ := zd1 hd rfl
  have hc := pm_call_m (M := M) (cost := cost) zext_m d
  refine z_in (L := []) (K := []) (ls := [some (.ref 31), some (.int a1), none, none]) zmt_73 zco_73 rfl rfl zid_n zid_n ?_
  delta f_X8_othersWith at h
  refine g_iconst (pc' := 1) (v := (-1 : Int32)) hc rfl zki_m1 rfl ?_
  refine g_istore_n (pc' := 2) (ls1 := [some (.ref 31), some (.int a1), some (.int (-1 : Int32)), none]) hc rfl (zlt rfl) rfl rfl ?_
  refine g_iconst (pc' := 3) (v := (0 : Int32)) hc rfl zki_0 rfl ?_
  refine g_istore_n (pc' := 4) (ls1 := [some (.ref 31), some (.int a1), some (.int (-1 : Int32)), some (.int (0 : Int32))]) hc rfl (zlt rfl) rfl rfl ?_
  refine zjn (G := (fun (y3 : Int32) => ∀ z4 : Option Value, znl z4 = true → pm_ev C_X8_othersWith (d + 1) (pm_call M cost zext d) cost (false, false) 108 0 0 Q 41 [some (.ref 31), some (.int a1), some (.int y3), z4] [] 0 0 (zS p q I [] J []))) (zwp_bind h) ?_ (fun h => ?_)
  · rintro y3 h z4 hz4
    refine g_iload_n (pc' := 42)  hc rfl rfl rfl ?_
    replace h := zws h
    exact g_ireturn hc rfl rfl rfl (fun _ => ⟨rfl, rfl⟩) h
  refine zitr_ev (G := (fun (g : Int32 × Int32) => match g with | (x1, x2) => pm_ev C_X8_othersWith (d + 1) (pm_call M cost zext d) cost (false, false) 108 0 0 Q 4 [some (.ref 31), some (.int a1), some (.int x1), some (.int x2)] [] 0 0 (zS p q I [] J []))) ?_ zFU ((-1 : Int32), (0 : Int32)) h
  rintro ⟨x1, x2⟩ h
  refine g_iload_n (pc' := 5)  hc rfl rfl rfl ?_
  refine g_aload_n (pc' := 6)  hc rfl rfl rfl rfl ?_
  refine z_getI (pc' := 9) (v := (I 31 3)) hc rfl rfl rfl sh_31 rfl rfl rfl ?_
  refine g_icmp_ge (pc' := 12) hc rfl rfl (fun hx => ?_) (fun hx => ?_)
  · replace h := zwp_t h hx
    replace h := zwp_r h
    exact h (some (.int x2)) rfl
  · replace h := zwp_f h hx
    refine g_iload_n (pc' := 13)  hc rfl rfl rfl ?_
    refine g_aload_n (pc' := 14)  hc rfl rfl rfl rfl ?_
    refine z_getR (pc' := 17)  hc rfl rfl rfl sh_31 rfl rfl ?_
    refine g_iload_n (pc' := 18)  hc rfl rfl rfl ?_
    have hb := (zwp_bnd h).1
    replace h := (zwp_bnd h).2
    refine z_iaload (pc' := 19) (v := (((I 32)) x2.toNatClampNeg)) hc rfl rfl sh_32 hb rfl rfl ?_
    refine g_aload_n (pc' := 20)  hc rfl rfl rfl rfl ?_
    refine z_getR (pc' := 23)  hc rfl rfl rfl sh_31 rfl rfl ?_
    refine g_iload_n (pc' := 24)  hc rfl rfl rfl ?_
    have hb := (zwp_bnd h).1
    replace h := (zwp_bnd h).2
    refine z_iaload (pc' := 25) (v := (((I 32)) a1.toNatClampNeg)) hc rfl rfl sh_32 hb rfl rfl ?_
    refine zjn (G := (fun (j5 : Int32) => pm_ev C_X8_othersWith (d + 1) (pm_call M cost zext d) cost (false, false) 108 0 0 Q 33 [some (.ref 31), some (.int a1), some (.int x1), some (.int x2)] [.int j5, .int x1] 0 0 (zS p q I [] J []))) (zwp_bind h) ?_ (fun h => ?_)
    · rintro j5 h
      refine g_iadd (pc' := 34)  hc rfl rfl ?_
      refine g_istore_n (pc' := 35) (ls1 := [some (.ref 31), some (.int a1), some (.int (x1 + j5)), some (.int x2)]) hc rfl (zlt rfl) rfl rfl ?_
      refine g_iinc (pc' := 38) (ls1 := [some (.ref 31), some (.int a1), some (.int (x1 + j5)), some (.int (x2 + (1 : Int32)))]) hc rfl rfl zki_1 (zlt rfl) rfl rfl ?_
      refine g_goto hc rfl ?_
      replace h := zwp_l h
      exact h
    refine g_icmp_ne (pc' := 28) hc rfl rfl (fun hx => ?_) (fun hx => ?_)
    · replace h := zwp_f h hx
      refine g_iconst (pc' := 33) (v := (0 : Int32)) hc rfl zki_0 rfl ?_
      replace h := zws h
      exact h
    · replace h := zwp_t h hx
      refine g_iconst (pc' := 29) (v := (1 : Int32)) hc rfl zki_1 rfl ?_
      refine g_goto hc rfl ?_
      replace h := zws h
      exact h
set_option maxRecDepth 4000 in
theorem ok_X3_stepOf_7 {p q : Nat} {I : pI} {J : pJ} {a1 : Int32} {a2 : Int32} {Q : pQ} {d : Nat} (hd : 1 ≤ d) (h : zwp (f_X3_stepOf a1 a2 (I 9) (I 10)) (fun r => Q (.inl (some (.int r))) (zS p q I [] J []))) : pm_call M cost zext d 24 [.ref 7, .int a1, .int a2] (pm_st 108 (shp p q) I J) Q := by
  obtain ⟨d, rfl⟩ := zd1 hd rfl
  have hc := pm_call_m (M := M) (cost := cost) zext_m d
  refine z_in (L := []) (K := []) (ls := [some (.ref 7), some (.int a1), some (.int a2), none]) zmt_24 zco_24 rfl rfl zid_n zid_n ?_
  delta f_X3_stepOf at h
  refine g_aload_n (pc' := 1)  hc rfl rfl rfl rfl ?_
  refine z_getR (pc' := 4)  hc rfl rfl rfl sh_7 rfl rfl ?_
  refine g_iload_n (pc' := 5)  hc rfl rfl rfl ?_
  have hb := (zwp_bnd h).1
  replace h := (zwp_bnd h).2
  refine z_iaload (pc' := 6) (v := (((I 9)) a1.toNatClampNeg)) hc rfl rfl sh_9 hb rfl rfl ?_
  refine g_istore_n (pc' := 7) (ls1 := [some (.ref 7), some (.int a1), some (.int a2), some (.int (((I 9)) a1.toNatClampNeg))]) hc rfl (zlt rfl) rfl rfl ?_
  refine g_iload_n (pc' := 8)  hc rfl rfl rfl ?_
  refine g_if_le (pc' := 11) hc rfl rfl (fun hx => ?_) (fun hx => ?_)
  · replace h := zwp_t h hx
    refine g_iconst (pc' := 28) (v := (0 : Int32)) hc rfl zki_0 rfl ?_
    replace h := zws h
    exact g_ireturn hc rfl rfl rfl (fun _ => ⟨rfl, rfl⟩) h
  · replace h := zwp_f h hx
    refine g_aload_n (pc' := 12)  hc rfl rfl rfl rfl ?_
    refine z_getR (pc' := 15)  hc rfl rfl rfl sh_7 rfl rfl ?_
    refine g_iload_n (pc' := 16)  hc rfl rfl rfl ?_
    refine g_bipush (pc' := 18) (v := (8 : Int32)) hc rfl zkb_8 rfl ?_
    refine g_imul (pc' := 19)  hc rfl rfl ?_
    refine g_iload_n (pc' := 20)  hc rfl rfl rfl ?_
    refine g_iload_n (pc' := 21)  hc rfl rfl rfl ?_
    have hz := (zwp_nz h).1
    replace h := (zwp_nz h).2
    refine g_irem (pc' := 22)  hc rfl hz rfl ?_
    refine g_iadd (pc' := 23)  hc rfl rfl ?_
    have hb := (zwp_bnd h).1
    replace h := (zwp_bnd h).2
    refine z_iaload (pc' := 24) (v := (((I 10)) ((a1 * (8 : Int32)) + (a2 - a2 / (((I 9)) a1.toNatClampNeg) * (((I 9)) a1.toNatClampNeg))).toNatClampNeg)) hc rfl rfl sh_10 hb rfl rfl ?_
    refine g_goto hc rfl ?_
    replace h := zws h
    exact g_ireturn hc rfl rfl rfl (fun _ => ⟨rfl, rfl⟩) h
set_option maxRecDepth 4000 in
theorem ok_X2_setValues_51_7_31 {p q : Nat} {I : pI} {J : pJ} {a3 : Int32} {Q : pQ} {d : Nat} (hd : 2 ≤ d) (h : zwp (f_X2_setValues a3 (I 12) (I 7 9) (I 9) (I 10) (I 32) (I 31 3) (I 34) (I 31 0) (I 35) (I 33) (I 52)) (fun o0 => Q (.inl none) (zS p q I [(52, none, o0)] J []))) : pm_call M cost zext d 18 [.ref 51, .ref 7, .ref 31, .int a3] (pm_st 108 (shp p q) I J) Q := by
  obtain ⟨d, rfl⟩ := zd1 hd rfl
  have hc := pm_call_m (M := M) (cost := cost) zext_m d
  refine z_in (L := [(52, none, (I 52))]) (K := []) (ls := [some (.ref 51), some (.ref 7), some (.ref 31), some (.int a3)]) zmt_18 zco_18 rfl rfl (zid_a zid_n) zid_n ?_
  delta f_X2_setValues at h
  refine g_aload_n (pc' := 1)  hc rfl rfl rfl rfl ?_
  refine z_getR (pc' := 4)  hc rfl rfl rfl sh_51 rfl rfl ?_
  refine g_iconst (pc' := 5) (v := (0 : Int32)) hc rfl zki_0 rfl ?_
  refine g_aload_n (pc' := 6)  hc rfl rfl rfl rfl ?_
  refine z_getR (pc' := 9)  hc rfl rfl rfl sh_31 rfl rfl ?_
  refine g_iload_n (pc' := 10)  hc rfl rfl rfl ?_
  have hb := (zwp_bnd h).1
  replace h := (zwp_bnd h).2
  refine z_iaload (pc' := 11) (v := (((I 33)) a3.toNatClampNeg)) hc rfl rfl sh_33 hb rfl rfl ?_
  refine z_iastore (pc' := 12) (g := (I 52)) (L' := [(52, none, (upd ((I 52)) 0 (((I 33)) a3.toNatClampNeg)))]) hc rfl rfl sh_52 (by decide) rfl rfl rfl rfl ?_
  refine g_aload_n (pc' := 13)  hc rfl rfl rfl rfl ?_
  refine z_getR (pc' := 16)  hc rfl rfl rfl sh_51 rfl rfl ?_
  refine g_iconst (pc' := 17) (v := (1 : Int32)) hc rfl zki_1 rfl ?_
  refine g_aload_n (pc' := 18)  hc rfl rfl rfl rfl ?_
  refine g_aload_n (pc' := 19)  hc rfl rfl rfl rfl ?_
  refine z_getI (pc' := 22) (v := (I 31 0)) hc rfl rfl rfl sh_31 rfl rfl rfl ?_
  refine z_virt (as := [.int (I 31 0)]) (a := 7) (r := [.int (1 : Int32), .ref 52]) hc rfl rfl rfl rfl sh_7 rfl zco_22 rfl rfl rfl ?_
  refine ok_X3_lightOf_7 (zdp hd rfl) (zwp_mono (zwp_bind h) ?_)
  rintro r1 h
  refine z_po (pc' := 25) (st' := [.int r1, .int (1 : Int32), .ref 52]) (v := (some (.int r1))) (L' := [(52, none, (upd ((I 52)) 0 (((I 33)) a3.toNatClampNeg)))]) (K' := []) zco_22 rfl rfl rfl rfl rfl rfl rfl rfl ?_
  refine z_iastore (pc' := 26) (g := (upd ((I 52)) 0 (((I 33)) a3.toNatClampNeg))) (L' := [(52, none, (upd (upd ((I 52)) 0 (((I 33)) a3.toNatClampNeg)) 1 r1))]) hc rfl rfl sh_52 (by decide) rfl rfl rfl rfl ?_
  refine g_aload_n (pc' := 27)  hc rfl rfl rfl rfl ?_
  refine z_getR (pc' := 30)  hc rfl rfl rfl sh_51 rfl rfl ?_
  refine g_iconst (pc' := 31) (v := (2 : Int32)) hc rfl zki_2 rfl ?_
  refine g_aload_n (pc' := 32)  hc rfl rfl rfl rfl ?_
  refine g_iload_n (pc' := 33)  hc rfl rfl rfl ?_
  refine z_virt (as := [.int a3]) (a := 31) (r := [.int (2 : Int32), .ref 52]) hc rfl rfl rfl rfl sh_31 rfl zco_73 rfl rfl rfl ?_
  refine ok_X8_othersWith_31 (zdp hd rfl) (zwp_mono (zwp_bind h) ?_)
  rintro r2 h
  refine z_po (pc' := 36) (st' := [.int r2, .int (2 : Int32), .ref 52]) (v := (some (.int r2))) (L' := [(52, none, (upd (upd ((I 52)) 0 (((I 33)) a3.toNatClampNeg)) 1 r1))]) (K' := []) zco_73 rfl rfl rfl rfl rfl rfl rfl rfl ?_
  refine z_iastore (pc' := 37) (g := (upd (upd ((I 52)) 0 (((I 33)) a3.toNatClampNeg)) 1 r1)) (L' := [(52, none, (upd (upd (upd ((I 52)) 0 (((I 33)) a3.toNatClampNeg)) 1 r1) 2 r2))]) hc rfl rfl sh_52 (by decide) rfl rfl rfl rfl ?_
  refine g_aload_n (pc' := 38)  hc rfl rfl rfl rfl ?_
  refine z_getR (pc' := 41)  hc rfl rfl rfl sh_51 rfl rfl ?_
  refine g_iconst (pc' := 42) (v := (3 : Int32)) hc rfl zki_3 rfl ?_
  refine g_aload_n (pc' := 43)  hc rfl rfl rfl rfl ?_
  refine z_getI (pc' := 46) (v := (I 31 0)) hc rfl rfl rfl sh_31 rfl rfl rfl ?_
  refine z_iastore (pc' := 47) (g := (upd (upd (upd ((I 52)) 0 (((I 33)) a3.toNatClampNeg)) 1 r1) 2 r2)) (L' := [(52, none, (upd (upd (upd (upd ((I 52)) 0 (((I 33)) a3.toNatClampNeg)) 1 r1) 2 r2) 3 ((I 31 0))))]) hc rfl rfl sh_52 (by decide) rfl rfl rfl rfl ?_
  refine g_aload_n (pc' := 48)  hc rfl rfl rfl rfl ?_
  refine z_getR (pc' := 51)  hc rfl rfl rfl sh_51 rfl rfl ?_
  refine g_iconst (pc' := 52) (v := (4 : Int32)) hc rfl zki_4 rfl ?_
  refine g_aload_n (pc' := 53)  hc rfl rfl rfl rfl ?_
  refine g_iload_n (pc' := 54)  hc rfl rfl rfl ?_
  refine g_aload_n (pc' := 55)  hc rfl rfl rfl rfl ?_
  refine z_getI (pc' := 58) (v := (I 31 0)) hc rfl rfl rfl sh_31 rfl rfl rfl ?_
  refine g_aload_n (pc' := 59)  hc rfl rfl rfl rfl ?_
  refine z_getR (pc' := 62)  hc rfl rfl rfl sh_31 rfl rfl ?_
  refine g_iload_n (pc' := 63)  hc rfl rfl rfl ?_
  have hb := (zwp_bnd h).1
  replace h := (zwp_bnd h).2
  refine z_iaload (pc' := 64) (v := (((I 35)) a3.toNatClampNeg)) hc rfl rfl sh_35 hb rfl rfl ?_
  refine g_iadd (pc' := 65)  hc rfl rfl ?_
  refine z_virt (as := [.int a3, .int (((I 31 0)) + (((I 35)) a3.toNatClampNeg))]) (a := 7) (r := [.int (4 : Int32), .ref 52]) hc rfl rfl rfl rfl sh_7 rfl zco_24 rfl rfl rfl ?_
  refine ok_X3_stepOf_7 (zdp hd rfl) (zwp_mono (zwp_bind h) ?_)
  rintro r3 h
  refine z_po (pc' := 68) (st' := [.int r3, .int (4 : Int32), .ref 52]) (v := (some (.int r3))) (L' := [(52, none, (upd (upd (upd (upd ((I 52)) 0 (((I 33)) a3.toNatClampNeg)) 1 r1) 2 r2) 3 ((I 31 0))))]) (K' := []) zco_24 rfl rfl rfl rfl rfl rfl rfl rfl ?_
  refine z_iastore (pc' := 69) (g := (upd (upd (upd (upd ((I 52)) 0 (((I 33)) a3.toNatClampNeg)) 1 r1) 2 r2) 3 ((I 31 0)))) (L' := [(52, none, (upd (upd (upd (upd (upd ((I 52)) 0 (((I 33)) a3.toNatClampNeg)) 1 r1) 2 r2) 3 ((I 31 0))) 4 r3))]) hc rfl rfl sh_52 (by decide) rfl rfl rfl rfl ?_
  refine g_aload_n (pc' := 70)  hc rfl rfl rfl rfl ?_
  refine z_getR (pc' := 73)  hc rfl rfl rfl sh_51 rfl rfl ?_
  refine g_iconst (pc' := 74) (v := (5 : Int32)) hc rfl zki_5 rfl ?_
  refine g_aload_n (pc' := 75)  hc rfl rfl rfl rfl ?_
  refine z_getR (pc' := 78)  hc rfl rfl rfl sh_31 rfl rfl ?_
  refine g_iload_n (pc' := 79)  hc rfl rfl rfl ?_
  have hb := (zwp_bnd h).1
  replace h := (zwp_bnd h).2
  refine z_iaload (pc' := 80) (v := (((I 34)) a3.toNatClampNeg)) hc rfl rfl sh_34 hb rfl rfl ?_
  refine z_iastore (pc' := 81) (g := (upd (upd (upd (upd (upd ((I 52)) 0 (((I 33)) a3.toNatClampNeg)) 1 r1) 2 r2) 3 ((I 31 0))) 4 r3)) (L' := [(52, none, (upd (upd (upd (upd (upd (upd ((I 52)) 0 (((I 33)) a3.toNatClampNeg)) 1 r1) 2 r2) 3 ((I 31 0))) 4 r3) 5 (((I 34)) a3.toNatClampNeg)))]) hc rfl rfl sh_52 (by decide) rfl rfl rfl rfl ?_
  replace h := zws h
  exact g_return hc rfl rfl (fun _ => ⟨rfl, rfl⟩) h
set_option maxRecDepth 4000 in
theorem ok_X5_join {p q : Nat} {I : pI} {J : pJ} {a0 : Int32} {a1 : Int32} {a2 : Int32} {Q : pQ} {d : Nat} (hd : 1 ≤ d) (h : zwp (f_X5_join a0 a1 a2) (fun r => Q (.inl (some (.int r))) (zS p q I [] J []))) : pm_call M cost zext d 46 [.int a0, .int a1, .int a2] (pm_st 108 (shp p q) I J) Q := by
  obtain ⟨d, rfl⟩ := zd1 hd rfl
  have hc := pm_call_m (M := M) (cost := cost) zext_m d
  refine z_in (L := []) (K := []) (ls := [some (.int a0), some (.int a1), some (.int a2)]) zmt_46 zco_46 rfl rfl zid_n zid_n ?_
  delta f_X5_join at h
  refine g_iload_n (pc' := 1)  hc rfl rfl rfl ?_
  by_cases hx1 : a0 = (-18 : Int32)
  · replace h := zwp_t h hx1
    refine z_switch (pc' := 106) hc rfl (by rw [hx1]; decide +kernel) ?_
    refine g_iload_n (pc' := 107)  hc rfl rfl rfl ?_
    refine g_iload_n (pc' := 108)  hc rfl rfl rfl ?_
    refine g_imul (pc' := 109)  hc rfl rfl ?_
    replace h := zws h
    exact g_ireturn hc rfl rfl rfl (fun _ => ⟨rfl, rfl⟩) h
  replace h := zwp_f h hx1
  by_cases hx2 : a0 = (-17 : Int32)
  · replace h := zwp_t h hx2
    refine z_switch (pc' := 102) hc rfl (by rw [hx2]; decide +kernel) ?_
    refine g_iload_n (pc' := 103)  hc rfl rfl rfl ?_
    refine g_iload_n (pc' := 104)  hc rfl rfl rfl ?_
    refine g_isub (pc' := 105)  hc rfl rfl ?_
    replace h := zws h
    exact g_ireturn hc rfl rfl rfl (fun _ => ⟨rfl, rfl⟩) h
  replace h := zwp_f h hx2
  by_cases hx3 : a0 = (-16 : Int32)
  · replace h := zwp_t h hx3
    refine z_switch (pc' := 98) hc rfl (by rw [hx3]; decide +kernel) ?_
    refine g_iload_n (pc' := 99)  hc rfl rfl rfl ?_
    refine g_iload_n (pc' := 100)  hc rfl rfl rfl ?_
    refine g_iadd (pc' := 101)  hc rfl rfl ?_
    replace h := zws h
    exact g_ireturn hc rfl rfl rfl (fun _ => ⟨rfl, rfl⟩) h
  replace h := zwp_f h hx3
  by_cases hx4 : a0 = (-15 : Int32)
  · replace h := zwp_t h hx4
    refine z_switch (pc' := 87) hc rfl (by rw [hx4]; decide +kernel) ?_
    refine g_iload_n (pc' := 88)  hc rfl rfl rfl ?_
    refine g_iload_n (pc' := 89)  hc rfl rfl rfl ?_
    refine g_icmp_ne (pc' := 92) hc rfl rfl (fun hx => ?_) (fun hx => ?_)
    · replace h := zwp_f h hx
      refine g_iconst (pc' := 97) (v := (0 : Int32)) hc rfl zki_0 rfl ?_
      replace h := zws h
      exact g_ireturn hc rfl rfl rfl (fun _ => ⟨rfl, rfl⟩) h
    · replace h := zwp_t h hx
      refine g_iconst (pc' := 93) (v := (1 : Int32)) hc rfl zki_1 rfl ?_
      refine g_goto hc rfl ?_
      replace h := zws h
      exact g_ireturn hc rfl rfl rfl (fun _ => ⟨rfl, rfl⟩) h
  replace h := zwp_f h hx4
  by_cases hx5 : a0 = (-14 : Int32)
  · replace h := zwp_t h hx5
    refine z_switch (pc' := 76) hc rfl (by rw [hx5]; decide +kernel) ?_
    refine g_iload_n (pc' := 77)  hc rfl rfl rfl ?_
    refine g_iload_n (pc' := 78)  hc rfl rfl rfl ?_
    refine g_icmp_ge (pc' := 81) hc rfl rfl (fun hx => ?_) (fun hx => ?_)
    · replace h := zwp_t h hx
      refine g_iconst (pc' := 86) (v := (0 : Int32)) hc rfl zki_0 rfl ?_
      replace h := zws h
      exact g_ireturn hc rfl rfl rfl (fun _ => ⟨rfl, rfl⟩) h
    · replace h := zwp_f h hx
      refine g_iconst (pc' := 82) (v := (1 : Int32)) hc rfl zki_1 rfl ?_
      refine g_goto hc rfl ?_
      replace h := zws h
      exact g_ireturn hc rfl rfl rfl (fun _ => ⟨rfl, rfl⟩) h
  replace h := zwp_f h hx5
  by_cases hx6 : a0 = (-12 : Int32)
  · replace h := zwp_t h hx6
    refine z_switch (pc' := 62) hc rfl (by rw [hx6]; decide +kernel) ?_
    refine g_iload_n (pc' := 63)  hc rfl rfl rfl ?_
    refine g_if_eq (pc' := 66) hc rfl rfl (fun hx => ?_) (fun hx => ?_)
    · replace h := zwp_t h hx
      refine g_iconst (pc' := 75) (v := (0 : Int32)) hc rfl zki_0 rfl ?_
      replace h := zws h
      exact g_ireturn hc rfl rfl rfl (fun _ => ⟨rfl, rfl⟩) h
    · replace h := zwp_f h hx
      refine g_iload_n (pc' := 67)  hc rfl rfl rfl ?_
      refine g_if_eq (pc' := 70) hc rfl rfl (fun hx => ?_) (fun hx => ?_)
      · replace h := zwp_t h hx
        refine g_iconst (pc' := 75) (v := (0 : Int32)) hc rfl zki_0 rfl ?_
        replace h := zws h
        exact g_ireturn hc rfl rfl rfl (fun _ => ⟨rfl, rfl⟩) h
      · replace h := zwp_f h hx
        refine g_iconst (pc' := 71) (v := (1 : Int32)) hc rfl zki_1 rfl ?_
        refine g_goto hc rfl ?_
        replace h := zws h
        exact g_ireturn hc rfl rfl rfl (fun _ => ⟨rfl, rfl⟩) h
  replace h := zwp_f h hx6
  by_cases hx7 : a0 = (-11 : Int32)
  · replace h := zwp_t h hx7
    refine z_switch (pc' := 48) hc rfl (by rw [hx7]; decide +kernel) ?_
    refine g_iload_n (pc' := 49)  hc rfl rfl rfl ?_
    refine g_if_ne (pc' := 52) hc rfl rfl (fun hx => ?_) (fun hx => ?_)
    · replace h := zwp_f h hx
      refine g_iconst (pc' := 57) (v := (1 : Int32)) hc rfl zki_1 rfl ?_
      refine g_goto hc rfl ?_
      replace h := zws h
      exact g_ireturn hc rfl rfl rfl (fun _ => ⟨rfl, rfl⟩) h
    · replace h := zwp_t h hx
      refine g_iload_n (pc' := 53)  hc rfl rfl rfl ?_
      refine g_if_eq (pc' := 56) hc rfl rfl (fun hx => ?_) (fun hx => ?_)
      · replace h := zwp_t h hx
        refine g_iconst (pc' := 61) (v := (0 : Int32)) hc rfl zki_0 rfl ?_
        replace h := zws h
        exact g_ireturn hc rfl rfl rfl (fun _ => ⟨rfl, rfl⟩) h
      · replace h := zwp_f h hx
        refine g_iconst (pc' := 57) (v := (1 : Int32)) hc rfl zki_1 rfl ?_
        refine g_goto hc rfl ?_
        replace h := zws h
        exact g_ireturn hc rfl rfl rfl (fun _ => ⟨rfl, rfl⟩) h
  replace h := zwp_f h hx7
  refine z_switch (pc' := 110) hc rfl (zsw_df (told := [(-18 : Int32), (-17 : Int32), (-16 : Int32), (-15 : Int32), (-14 : Int32), (-12 : Int32), (-11 : Int32)]) (by decide +kernel) (by decide) rfl (zne_c hx1 (zne_c hx2 (zne_c hx3 (zne_c hx4 (zne_c hx5 (zne_c hx6 (zne_c hx7 zne_n)))))))) ?_
  refine g_iload_n (pc' := 111)  hc rfl rfl rfl ?_
  refine g_if_ne (pc' := 114) hc rfl rfl (fun hx => ?_) (fun hx => ?_)
  · replace h := zwp_f h hx
    refine g_iload_n (pc' := 119)  hc rfl rfl rfl ?_
    refine g_iload_n (pc' := 120)  hc rfl rfl rfl ?_
    have hz := (zwp_nz h).1
    replace h := (zwp_nz h).2
    refine g_idiv (pc' := 121)  hc rfl hz rfl ?_
    replace h := zws h
    exact g_ireturn hc rfl rfl rfl (fun _ => ⟨rfl, rfl⟩) h
  · replace h := zwp_t h hx
    refine g_iconst (pc' := 115) (v := (0 : Int32)) hc rfl zki_0 rfl ?_
    refine g_goto hc rfl ?_
    replace h := zws h
    exact g_ireturn hc rfl rfl rfl (fun _ => ⟨rfl, rfl⟩) h
set_option maxRecDepth 4000 in
theorem ok_X5_value_16_52 {p q : Nat} {I : pI} {J : pJ} {Q : pQ} {d : Nat} (hd : 2 ≤ d) (h : zwp (f_X5_value 6 (I 52) (I 18) (I 16 2) (I 17)) (fun w => match w with | (r, o0) => Q (.inl (some (.int r))) (zS p q I [(17, none, o0)] J []))) : pm_call M cost zext d 45 [.ref 16, .ref 52] (pm_st 108 (shp p q) I J) Q := by
  obtain ⟨d, rfl⟩ := zd1 hd rfl
  have hc := pm_call_m (M := M) (cost := cost) zext_m d
  refine z_in (L := [(17, none, (I 17))]) (K := []) (ls := [some (.ref 16), some (.ref 52), none, none, none]) zmt_45 zco_45 rfl rfl (zid_a zid_n) zid_n ?_
  delta f_X5_value at h
  refine g_iconst (pc' := 1) (v := (-1 : Int32)) hc rfl zki_m1 rfl ?_
  refine g_istore_n (pc' := 2) (ls1 := [some (.ref 16), some (.ref 52), some (.int (-1 : Int32)), none, none]) hc rfl (zlt rfl) rfl rfl ?_
  refine g_iconst (pc' := 3) (v := (0 : Int32)) hc rfl zki_0 rfl ?_
  refine g_istore_n (pc' := 4) (ls1 := [some (.ref 16), some (.ref 52), some (.int (-1 : Int32)), some (.int (0 : Int32)), none]) hc rfl (zlt rfl) rfl rfl ?_
  refine zjn (G := (fun (g : Int32 × (Nat → Int32)) => match g with | (y5, y8) => ∀ z6 : Option Value, znl z6 = true → ∀ z7 : Option Value, znl z7 = true → pm_ev C_X5_value (d + 1) (pm_call M cost zext d) cost (false, false) 108 0 0 Q 139 [some (.ref 16), some (.ref 52), some (.int y5), z6, z7] [] 0 0 (zS p q I [(17, none, y8)] J []))) (zwp_bind h) ?_ (fun h => ?_)
  · rintro ⟨y5, y8⟩ h z6 hz6 z7 hz7
    refine g_iload_n (pc' := 140)  hc rfl rfl rfl ?_
    refine g_if_lt (pc' := 143) hc rfl rfl (fun hx => ?_) (fun hx => ?_)
    · replace h := zwp_t h hx
      refine g_iconst (pc' := 153) (v := (0 : Int32)) hc rfl zki_0 rfl ?_
      replace h := zws h
      exact g_ireturn hc rfl rfl rfl (fun _ => ⟨rfl, rfl⟩) h
    · replace h := zwp_f h hx
      refine g_aload_n (pc' := 144)  hc rfl rfl rfl rfl ?_
      refine z_getR (pc' := 147)  hc rfl rfl rfl sh_16 rfl rfl ?_
      refine g_iload_n (pc' := 148)  hc rfl rfl rfl ?_
      have hb := (zwp_bnd h).1
      replace h := (zwp_bnd h).2
      refine z_iaload (pc' := 149) (v := (y8 y5.toNatClampNeg)) hc rfl rfl sh_17 hb rfl rfl ?_
      refine g_goto hc rfl ?_
      replace h := zws h
      exact g_ireturn hc rfl rfl rfl (fun _ => ⟨rfl, rfl⟩) h
  refine zitr_ev (G := (fun (g : Int32 × Int32 × (Nat → Int32)) => match g with | (x1, x2, x4) => ∀ z3 : Option Value, znl z3 = true → pm_ev C_X5_value (d + 1) (pm_call M cost zext d) cost (false, false) 108 0 0 Q 4 [some (.ref 16), some (.ref 52), some (.int x1), some (.int x2), z3] [] 0 0 (zS p q I [(17, none, x4)] J []))) ?_ zFU ((-1 : Int32), (0 : Int32), (I 17)) h none rfl
  rintro ⟨x1, x2, x4⟩ h z3 hz3
  refine g_iload_n (pc' := 5)  hc rfl rfl rfl ?_
  refine g_aload_n (pc' := 6)  hc rfl rfl rfl rfl ?_
  refine z_getI (pc' := 9) (v := (I 16 2)) hc rfl rfl rfl sh_16 rfl rfl rfl ?_
  refine g_icmp_ge (pc' := 12) hc rfl rfl (fun hx => ?_) (fun hx => ?_)
  · replace h := zwp_t h hx
    replace h := zwp_r h
    exact h (some (.int x2)) rfl z3 hz3
  · replace h := zwp_f h hx
    refine g_aload_n (pc' := 13)  hc rfl rfl rfl rfl ?_
    refine z_getR (pc' := 16)  hc rfl rfl rfl sh_16 rfl rfl ?_
    refine g_iload_n (pc' := 17)  hc rfl rfl rfl ?_
    have hb := (zwp_bnd h).1
    replace h := (zwp_bnd h).2
    refine z_iaload (pc' := 18) (v := (((I 18)) x2.toNatClampNeg)) hc rfl rfl sh_18 hb rfl rfl ?_
    refine g_istore (pc' := 20) (ls1 := [some (.ref 16), some (.ref 52), some (.int x1), some (.int x2), some (.int (((I 18)) x2.toNatClampNeg))]) hc rfl (zlt rfl) rfl rfl ?_
    refine g_iload (pc' := 22)  hc rfl rfl rfl ?_
    refine g_bipush (pc' := 24) (v := (-6 : Int32)) hc rfl zkb_m6 rfl ?_
    refine g_icmp_lt (pc' := 27) hc rfl rfl (fun hx => ?_) (fun hx => ?_)
    · replace h := zwp_t h hx
      refine g_iload (pc' := 68)  hc rfl rfl rfl ?_
      refine g_bipush (pc' := 70) (v := (-13 : Int32)) hc rfl zkb_m13 rfl ?_
      refine g_icmp_ne (pc' := 73) hc rfl rfl (fun hx => ?_) (fun hx => ?_)
      · replace h := zwp_f h hx
        refine g_iload_n (pc' := 101)  hc rfl rfl rfl ?_
        refine g_iconst (pc' := 102) (v := (1 : Int32)) hc rfl zki_1 rfl ?_
        refine g_icmp_lt (pc' := 105) hc rfl rfl (fun hx => ?_) (fun hx => ?_)
        · replace h := zwp_t h hx
          refine g_iinc (pc' := 136) (ls1 := [some (.ref 16), some (.ref 52), some (.int x1), some (.int (x2 + (1 : Int32))), some (.int (((I 18)) x2.toNatClampNeg))]) hc rfl rfl zki_1 (zlt rfl) rfl rfl ?_
          refine g_goto hc rfl ?_
          replace h := zwp_l h
          exact h (some (.int (((I 18)) x2.toNatClampNeg))) rfl
        · replace h := zwp_f h hx
          refine g_iinc (pc' := 108) (ls1 := [some (.ref 16), some (.ref 52), some (.int (x1 + (-1 : Int32))), some (.int x2), some (.int (((I 18)) x2.toNatClampNeg))]) hc rfl rfl zki_m1 (zlt rfl) rfl rfl ?_
          refine g_aload_n (pc' := 109)  hc rfl rfl rfl rfl ?_
          refine z_getR (pc' := 112)  hc rfl rfl rfl sh_16 rfl rfl ?_
          refine g_iload_n (pc' := 113)  hc rfl rfl rfl ?_
          refine g_iload (pc' := 115)  hc rfl rfl rfl ?_
          refine g_aload_n (pc' := 116)  hc rfl rfl rfl rfl ?_
          refine z_getR (pc' := 119)  hc rfl rfl rfl sh_16 rfl rfl ?_
          refine g_iload_n (pc' := 120)  hc rfl rfl rfl ?_
          have hb := (zwp_bnd h).1
          replace h := (zwp_bnd h).2
          refine z_iaload (pc' := 121) (v := (x4 (x1 + (-1 : Int32)).toNatClampNeg)) hc rfl rfl sh_17 hb rfl rfl ?_
          refine g_aload_n (pc' := 122)  hc rfl rfl rfl rfl ?_
          refine z_getR (pc' := 125)  hc rfl rfl rfl sh_16 rfl rfl ?_
          refine g_iload_n (pc' := 126)  hc rfl rfl rfl ?_
          refine g_iconst (pc' := 127) (v := (1 : Int32)) hc rfl zki_1 rfl ?_
          refine g_iadd (pc' := 128)  hc rfl rfl ?_
          have hb := (zwp_bnd h).1
          replace h := (zwp_bnd h).2
          refine z_iaload (pc' := 129) (v := (x4 ((x1 + (-1 : Int32)) + (1 : Int32)).toNatClampNeg)) hc rfl rfl sh_17 hb rfl rfl ?_
          refine z_stat (as := [.int (((I 18)) x2.toNatClampNeg), .int (x4 (x1 + (-1 : Int32)).toNatClampNeg), .int (x4 ((x1 + (-1 : Int32)) + (1 : Int32)).toNatClampNeg)]) (r := [.int (x1 + (-1 : Int32)), .ref 17]) hc rfl rfl rfl rfl zco_46 rfl rfl rfl ?_
          refine ok_X5_join (zdp hd rfl) (zwp_mono (zwp_bind h) ?_)
          rintro r9 h
          refine z_po (pc' := 132) (st' := [.int r9, .int (x1 + (-1 : Int32)), .ref 17]) (v := (some (.int r9))) (L' := [(17, none, x4)]) (K' := []) zco_46 rfl rfl rfl rfl rfl rfl rfl rfl ?_
          have hb := (zwp_bnd h).1
          replace h := (zwp_bnd h).2
          refine z_iastore (pc' := 133) (g := x4) (L' := [(17, none, (upd x4 (x1 + (-1 : Int32)).toNatClampNeg r9))]) hc rfl rfl sh_17 hb rfl rfl rfl rfl ?_
          refine g_iinc (pc' := 136) (ls1 := [some (.ref 16), some (.ref 52), some (.int (x1 + (-1 : Int32))), some (.int (x2 + (1 : Int32))), some (.int (((I 18)) x2.toNatClampNeg))]) hc rfl rfl zki_1 (zlt rfl) rfl rfl ?_
          refine g_goto hc rfl ?_
          replace h := zwp_l h
          exact h (some (.int (((I 18)) x2.toNatClampNeg))) rfl
      · replace h := zwp_t h hx
        refine g_iload_n (pc' := 74)  hc rfl rfl rfl ?_
        refine g_if_lt (pc' := 77) hc rfl rfl (fun hx => ?_) (fun hx => ?_)
        · replace h := zwp_t h hx
          refine g_iinc (pc' := 136) (ls1 := [some (.ref 16), some (.ref 52), some (.int x1), some (.int (x2 + (1 : Int32))), some (.int (((I 18)) x2.toNatClampNeg))]) hc rfl rfl zki_1 (zlt rfl) rfl rfl ?_
          refine g_goto hc rfl ?_
          replace h := zwp_l h
          exact h (some (.int (((I 18)) x2.toNatClampNeg))) rfl
        · replace h := zwp_f h hx
          refine g_aload_n (pc' := 78)  hc rfl rfl rfl rfl ?_
          refine z_getR (pc' := 81)  hc rfl rfl rfl sh_16 rfl rfl ?_
          refine g_iload_n (pc' := 82)  hc rfl rfl rfl ?_
          refine g_aload_n (pc' := 83)  hc rfl rfl rfl rfl ?_
          refine z_getR (pc' := 86)  hc rfl rfl rfl sh_16 rfl rfl ?_
          refine g_iload_n (pc' := 87)  hc rfl rfl rfl ?_
          have hb := (zwp_bnd h).1
          replace h := (zwp_bnd h).2
          refine z_iaload (pc' := 88) (v := (x4 x1.toNatClampNeg)) hc rfl rfl sh_17 hb rfl rfl ?_
          refine zjn (G := (fun (j10 : Int32) => pm_ev C_X5_value (d + 1) (pm_call M cost zext d) cost (false, false) 108 0 0 Q 96 [some (.ref 16), some (.ref 52), some (.int x1), some (.int x2), some (.int (((I 18)) x2.toNatClampNeg))] [.int j10, .int x1, .ref 17] 0 0 (zS p q I [(17, none, x4)] J []))) (zwp_bind h) ?_ (fun h => ?_)
          · rintro j10 h
            have hb := (zwp_bnd h).1
            replace h := (zwp_bnd h).2
            refine z_iastore (pc' := 97) (g := x4) (L' := [(17, none, (upd x4 x1.toNatClampNeg j10))]) hc rfl rfl sh_17 hb rfl rfl rfl rfl ?_
            refine g_goto hc rfl ?_
            refine g_iinc (pc' := 136) (ls1 := [some (.ref 16), some (.ref 52), some (.int x1), some (.int (x2 + (1 : Int32))), some (.int (((I 18)) x2.toNatClampNeg))]) hc rfl rfl zki_1 (zlt rfl) rfl rfl ?_
            refine g_goto hc rfl ?_
            replace h := zwp_l h
            exact h (some (.int (((I 18)) x2.toNatClampNeg))) rfl
          refine g_if_ne (pc' := 91) hc rfl rfl (fun hx => ?_) (fun hx => ?_)
          · replace h := zwp_f h hx
            refine g_iconst (pc' := 96) (v := (0 : Int32)) hc rfl zki_0 rfl ?_
            replace h := zws h
            exact h
          · replace h := zwp_t h hx
            refine g_iconst (pc' := 92) (v := (1 : Int32)) hc rfl zki_1 rfl ?_
            refine g_goto hc rfl ?_
            replace h := zws h
            exact h
    · replace h := zwp_f h hx
      refine g_iload_n (pc' := 28)  hc rfl rfl rfl ?_
      refine g_iconst (pc' := 29) (v := (1 : Int32)) hc rfl zki_1 rfl ?_
      refine g_iadd (pc' := 30)  hc rfl rfl ?_
      refine g_aload_n (pc' := 31)  hc rfl rfl rfl rfl ?_
      refine z_getR (pc' := 34)  hc rfl rfl rfl sh_16 rfl rfl ?_
      refine z_alen (pc' := 35) (v := (48 : Int32)) hc rfl rfl sh_17 ⟨by decide, by decide⟩ zkn_48 rfl ?_
      refine g_icmp_ge (pc' := 38) hc rfl rfl (fun hx => ?_) (fun hx => ?_)
      · replace h := zwp_t h hx
        refine g_iinc (pc' := 136) (ls1 := [some (.ref 16), some (.ref 52), some (.int x1), some (.int (x2 + (1 : Int32))), some (.int (((I 18)) x2.toNatClampNeg))]) hc rfl rfl zki_1 (zlt rfl) rfl rfl ?_
        refine g_goto hc rfl ?_
        replace h := zwp_l h
        exact h (some (.int (((I 18)) x2.toNatClampNeg))) rfl
      · replace h := zwp_f h hx
        refine g_iinc (pc' := 41) (ls1 := [some (.ref 16), some (.ref 52), some (.int (x1 + (1 : Int32))), some (.int x2), some (.int (((I 18)) x2.toNatClampNeg))]) hc rfl rfl zki_1 (zlt rfl) rfl rfl ?_
        refine g_aload_n (pc' := 42)  hc rfl rfl rfl rfl ?_
        refine z_getR (pc' := 45)  hc rfl rfl rfl sh_16 rfl rfl ?_
        refine g_iload_n (pc' := 46)  hc rfl rfl rfl ?_
        refine g_iload (pc' := 48)  hc rfl rfl rfl ?_
        refine zjn (G := (fun (j11 : Int32) => pm_ev C_X5_value (d + 1) (pm_call M cost zext d) cost (false, false) 108 0 0 Q 62 [some (.ref 16), some (.ref 52), some (.int (x1 + (1 : Int32))), some (.int x2), some (.int (((I 18)) x2.toNatClampNeg))] [.int j11, .int (x1 + (1 : Int32)), .ref 17] 0 0 (zS p q I [(17, none, x4)] J []))) (zwp_bind h) ?_ (fun h => ?_)
        · rintro j11 h
          have hb := (zwp_bnd h).1
          replace h := (zwp_bnd h).2
          refine z_iastore (pc' := 63) (g := x4) (L' := [(17, none, (upd x4 (x1 + (1 : Int32)).toNatClampNeg j11))]) hc rfl rfl sh_17 hb rfl rfl rfl rfl ?_
          refine g_goto hc rfl ?_
          refine g_iinc (pc' := 136) (ls1 := [some (.ref 16), some (.ref 52), some (.int (x1 + (1 : Int32))), some (.int (x2 + (1 : Int32))), some (.int (((I 18)) x2.toNatClampNeg))]) hc rfl rfl zki_1 (zlt rfl) rfl rfl ?_
          refine g_goto hc rfl ?_
          replace h := zwp_l h
          exact h (some (.int (((I 18)) x2.toNatClampNeg))) rfl
        refine g_if_lt (pc' := 51) hc rfl rfl (fun hx => ?_) (fun hx => ?_)
        · replace h := zwp_t h hx
          refine g_aload_n (pc' := 57)  hc rfl rfl rfl rfl ?_
          refine g_iconst (pc' := 58) (v := (-1 : Int32)) hc rfl zki_m1 rfl ?_
          refine g_iload (pc' := 60)  hc rfl rfl rfl ?_
          refine g_isub (pc' := 61)  hc rfl rfl ?_
          have hb := (zwp_bnd h).1
          replace h := (zwp_bnd h).2
          refine z_iaload (pc' := 62) (v := (((I 52)) ((-1 : Int32) - (((I 18)) x2.toNatClampNeg)).toNatClampNeg)) hc rfl rfl sh_52 hb rfl rfl ?_
          replace h := zws h
          exact h
        · replace h := zwp_f h hx
          refine g_iload (pc' := 53)  hc rfl rfl rfl ?_
          refine g_goto hc rfl ?_
          replace h := zws h
          exact h
set_option maxRecDepth 4000 in
theorem ok_X2_hurt_51_7_31 {p q : Nat} {I : pI} {J : pJ} {a3 : Int32} {Q : pQ} {d : Nat} (hd : 3 ≤ d) (h : zwp (f_X2_hurt a3 (I 18) (I 16 2) (I 17) (I 12) (I 7 9) (I 9) (I 10) (I 32) (I 31 3) (I 34) (I 31 0) (I 35) (I 33) (I 52)) (fun w => match w with | (o0, o1, o2) => Q (.inl none) (zS p q I [(17, none, o0), (33, none, o1), (52, none, o2)] J []))) : pm_call M cost zext d 15 [.ref 51, .ref 7, .ref 31, .int a3] (pm_st 108 (shp p q) I J) Q := by
  obtain ⟨d, rfl⟩ := zd1 hd rfl
  have hc := pm_call_m (M := M) (cost := cost) zext_m d
  refine z_in (L := [(17, none, (I 17)), (33, none, (I 33)), (52, none, (I 52))]) (K := []) (ls := [some (.ref 51), some (.ref 7), some (.ref 31), some (.int a3), none]) zmt_15 zco_15 rfl rfl (zid_a (zid_a (zid_a zid_n))) zid_n ?_
  delta f_X2_hurt at h
  refine g_iconst (pc' := 1) (v := (1 : Int32)) hc rfl zki_1 rfl ?_
  refine g_istore (pc' := 3) (ls1 := [some (.ref 51), some (.ref 7), some (.ref 31), some (.int a3), some (.int (1 : Int32))]) hc rfl (zlt rfl) rfl rfl ?_
  refine g_aload_n (pc' := 4)  hc rfl rfl rfl rfl ?_
  refine z_getR (pc' := 7)  hc rfl rfl rfl sh_7 rfl rfl ?_
  refine z_virt (as := []) (a := 16) (r := []) hc rfl rfl rfl rfl sh_16 rfl zco_43 rfl rfl rfl ?_
  refine ok_X5_isTold_16 (zdp hd rfl) (zwp_mono (zwp_bind h) ?_)
  rintro r1 h
  refine z_po (pc' := 10) (st' := [.int r1]) (v := (some (.int r1))) (L' := [(17, none, (I 17)), (33, none, (I 33)), (52, none, (I 52))]) (K' := []) zco_43 rfl rfl rfl rfl rfl rfl rfl rfl ?_
  refine zjn (G := (fun (g : Int32 × (Nat → Int32) × (Nat → Int32)) => match g with | (j2, j3, j4) => pm_ev C_X2_hurt (d + 1) (pm_call M cost zext d) cost (false, false) 108 0 0 Q 42 [some (.ref 51), some (.ref 7), some (.ref 31), some (.int a3), some (.int j2)] [] 0 0 (zS p q I [(17, none, j3), (33, none, (I 33)), (52, none, j4)] J []))) (zwp_bind h) ?_ (fun h => ?_)
  · rintro ⟨j2, j3, j4⟩ h
    refine g_aload_n (pc' := 43)  hc rfl rfl rfl rfl ?_
    refine z_getR (pc' := 46)  hc rfl rfl rfl sh_31 rfl rfl ?_
    refine g_iload_n (pc' := 47)  hc rfl rfl rfl ?_
    refine g_bipush (pc' := 49) (v := (99 : Int32)) hc rfl zkb_99 rfl ?_
    refine g_aload_n (pc' := 50)  hc rfl rfl rfl rfl ?_
    refine z_getR (pc' := 53)  hc rfl rfl rfl sh_31 rfl rfl ?_
    refine g_iload_n (pc' := 54)  hc rfl rfl rfl ?_
    have hb := (zwp_bnd h).1
    replace h := (zwp_bnd h).2
    refine z_iaload (pc' := 55) (v := (((I 33)) a3.toNatClampNeg)) hc rfl rfl sh_33 hb rfl rfl ?_
    refine g_iload (pc' := 57)  hc rfl rfl rfl ?_
    refine g_iadd (pc' := 58)  hc rfl rfl ?_
    refine z_min (pc' := 61)  hc rfl rfl (zdq hd rfl) rfl rfl ?_
    have hb := (zwp_bnd h).1
    replace h := (zwp_bnd h).2
    refine z_iastore (pc' := 62) (g := (I 33)) (L' := [(17, none, j3), (33, none, (upd ((I 33)) a3.toNatClampNeg (if ((((I 33)) a3.toNatClampNeg) + j2) < (99 : Int32) then ((((I 33)) a3.toNatClampNeg) + j2) else (99 : Int32)))), (52, none, j4)]) hc rfl rfl sh_33 hb rfl rfl rfl rfl ?_
    replace h := zws h
    exact g_return hc rfl rfl (fun _ => ⟨rfl, rfl⟩) h
  refine g_if_eq (pc' := 13) hc rfl rfl (fun hx => ?_) (fun hx => ?_)
  · replace h := zwp_t h hx
    replace h := zws h
    exact h
  · replace h := zwp_f h hx
    refine g_aload_n (pc' := 14)  hc rfl rfl rfl rfl ?_
    refine g_aload_n (pc' := 15)  hc rfl rfl rfl rfl ?_
    refine g_aload_n (pc' := 16)  hc rfl rfl rfl rfl ?_
    refine g_iload_n (pc' := 17)  hc rfl rfl rfl ?_
    refine z_virt (as := [.ref 7, .ref 31, .int a3]) (a := 51) (r := []) hc rfl rfl rfl rfl sh_51 rfl zco_18 rfl rfl rfl ?_
    refine ok_X2_setValues_51_7_31 (zdp hd rfl) (zwp_mono (zwp_bind h) ?_)
    rintro o5 h
    refine z_po (pc' := 20) (st' := []) (v := none) (L' := [(17, none, (I 17)), (33, none, (I 33)), (52, none, o5)]) (K' := []) zco_18 rfl rfl rfl rfl rfl rfl rfl rfl ?_
    refine g_iconst (pc' := 21) (v := (0 : Int32)) hc rfl zki_0 rfl ?_
    refine g_bipush (pc' := 23) (v := (9 : Int32)) hc rfl zkb_9 rfl ?_
    refine g_aload_n (pc' := 24)  hc rfl rfl rfl rfl ?_
    refine z_getR (pc' := 27)  hc rfl rfl rfl sh_7 rfl rfl ?_
    refine g_aload_n (pc' := 28)  hc rfl rfl rfl rfl ?_
    refine z_getR (pc' := 31)  hc rfl rfl rfl sh_51 rfl rfl ?_
    refine z_virt (as := [.ref 52]) (a := 16) (r := [.int (9 : Int32), .int (0 : Int32)]) hc rfl rfl rfl rfl sh_16 rfl zco_45 rfl rfl rfl ?_
    refine ok_X5_value_16_52 (zdp hd rfl) (zwp_mono (zwp_bind h) ?_)
    rintro ⟨r7, o6⟩ h
    refine z_po (pc' := 34) (st' := [.int r7, .int (9 : Int32), .int (0 : Int32)]) (v := (some (.int r7))) (L' := [(17, none, o6), (33, none, (I 33)), (52, none, o5)]) (K' := []) zco_45 rfl rfl rfl rfl rfl rfl rfl rfl ?_
    refine z_min (pc' := 37)  hc rfl rfl (zdq hd rfl) rfl rfl ?_
    refine z_max (pc' := 40)  hc rfl rfl (zdq hd rfl) rfl rfl ?_
    refine g_istore (pc' := 42) (ls1 := [some (.ref 51), some (.ref 7), some (.ref 31), some (.int a3), some (.int (if (0 : Int32) < (if r7 < (9 : Int32) then r7 else (9 : Int32)) then (if r7 < (9 : Int32) then r7 else (9 : Int32)) else (0 : Int32)))]) hc rfl (zlt rfl) rfl rfl ?_
    replace h := zws h
    exact h
set_option maxRecDepth 4000 in
theorem ok_X5_isTold_13 {p q : Nat} {I : pI} {J : pJ} {Q : pQ} {d : Nat} (hd : 1 ≤ d) (h : zwp (f_X5_isTold (I 13 2)) (fun r => Q (.inl (some (.int r))) (zS p q I [] J []))) : pm_call M cost zext d 43 [.ref 13] (pm_st 108 (shp p q) I J) Q := by
  obtain ⟨d, rfl⟩ := zd1 hd rfl
  have hc := pm_call_m (M := M) (cost := cost) zext_m d
  refine z_in (L := []) (K := []) (ls := [some (.ref 13)]) zmt_43 zco_43 rfl rfl zid_n zid_n ?_
  delta f_X5_isTold at h
  refine g_aload_n (pc' := 1)  hc rfl rfl rfl rfl ?_
  refine z_getI (pc' := 4) (v := (I 13 2)) hc rfl rfl rfl sh_13 rfl rfl rfl ?_
  refine g_if_le (pc' := 7) hc rfl rfl (fun hx => ?_) (fun hx => ?_)
  · replace h := zwp_t h hx
    refine g_iconst (pc' := 12) (v := (0 : Int32)) hc rfl zki_0 rfl ?_
    replace h := zws h
    exact g_ireturn hc rfl rfl rfl (fun _ => ⟨rfl, rfl⟩) h
  · replace h := zwp_f h hx
    refine g_iconst (pc' := 8) (v := (1 : Int32)) hc rfl zki_1 rfl ?_
    refine g_goto hc rfl ?_
    replace h := zws h
    exact g_ireturn hc rfl rfl rfl (fun _ => ⟨rfl, rfl⟩) h
set_option maxRecDepth 4000 in
theorem ok_X5_value_13_52 {p q : Nat} {I : pI} {J : pJ} {Q : pQ} {d : Nat} (hd : 2 ≤ d) (h : zwp (f_X5_value 6 (I 52) (I 15) (I 13 2) (I 14)) (fun w => match w with | (r, o0) => Q (.inl (some (.int r))) (zS p q I [(14, none, o0)] J []))) : pm_call M cost zext d 45 [.ref 13, .ref 52] (pm_st 108 (shp p q) I J) Q := by
  obtain ⟨d, rfl⟩ := zd1 hd rfl
  have hc := pm_call_m (M := M) (cost := cost) zext_m d
  refine z_in (L := [(14, none, (I 14))]) (K := []) (ls := [some (.ref 13), some (.ref 52), none, none, none]) zmt_45 zco_45 rfl rfl (zid_a zid_n) zid_n ?_
  delta f_X5_value at h
  refine g_iconst (pc' := 1) (v := (-1 : Int32)) hc rfl zki_m1 rfl ?_
  refine g_istore_n (pc' := 2) (ls1 := [some (.ref 13), some (.ref 52), some (.int (-1 : Int32)), none, none]) hc rfl (zlt rfl) rfl rfl ?_
  refine g_iconst (pc' := 3) (v := (0 : Int32)) hc rfl zki_0 rfl ?_
  refine g_istore_n (pc' := 4) (ls1 := [some (.ref 13), some (.ref 52), some (.int (-1 : Int32)), some (.int (0 : Int32)), none]) hc rfl (zlt rfl) rfl rfl ?_
  refine zjn (G := (fun (g : Int32 × (Nat → Int32)) => match g with | (y5, y8) => ∀ z6 : Option Value, znl z6 = true → ∀ z7 : Option Value, znl z7 = true → pm_ev C_X5_value (d + 1) (pm_call M cost zext d) cost (false, false) 108 0 0 Q 139 [some (.ref 13), some (.ref 52), some (.int y5), z6, z7] [] 0 0 (zS p q I [(14, none, y8)] J []))) (zwp_bind h) ?_ (fun h => ?_)
  · rintro ⟨y5, y8⟩ h z6 hz6 z7 hz7
    refine g_iload_n (pc' := 140)  hc rfl rfl rfl ?_
    refine g_if_lt (pc' := 143) hc rfl rfl (fun hx => ?_) (fun hx => ?_)
    · replace h := zwp_t h hx
      refine g_iconst (pc' := 153) (v := (0 : Int32)) hc rfl zki_0 rfl ?_
      replace h := zws h
      exact g_ireturn hc rfl rfl rfl (fun _ => ⟨rfl, rfl⟩) h
    · replace h := zwp_f h hx
      refine g_aload_n (pc' := 144)  hc rfl rfl rfl rfl ?_
      refine z_getR (pc' := 147)  hc rfl rfl rfl sh_13 rfl rfl ?_
      refine g_iload_n (pc' := 148)  hc rfl rfl rfl ?_
      have hb := (zwp_bnd h).1
      replace h := (zwp_bnd h).2
      refine z_iaload (pc' := 149) (v := (y8 y5.toNatClampNeg)) hc rfl rfl sh_14 hb rfl rfl ?_
      refine g_goto hc rfl ?_
      replace h := zws h
      exact g_ireturn hc rfl rfl rfl (fun _ => ⟨rfl, rfl⟩) h
  refine zitr_ev (G := (fun (g : Int32 × Int32 × (Nat → Int32)) => match g with | (x1, x2, x4) => ∀ z3 : Option Value, znl z3 = true → pm_ev C_X5_value (d + 1) (pm_call M cost zext d) cost (false, false) 108 0 0 Q 4 [some (.ref 13), some (.ref 52), some (.int x1), some (.int x2), z3] [] 0 0 (zS p q I [(14, none, x4)] J []))) ?_ zFU ((-1 : Int32), (0 : Int32), (I 14)) h none rfl
  rintro ⟨x1, x2, x4⟩ h z3 hz3
  refine g_iload_n (pc' := 5)  hc rfl rfl rfl ?_
  refine g_aload_n (pc' := 6)  hc rfl rfl rfl rfl ?_
  refine z_getI (pc' := 9) (v := (I 13 2)) hc rfl rfl rfl sh_13 rfl rfl rfl ?_
  refine g_icmp_ge (pc' := 12) hc rfl rfl (fun hx => ?_) (fun hx => ?_)
  · replace h := zwp_t h hx
    replace h := zwp_r h
    exact h (some (.int x2)) rfl z3 hz3
  · replace h := zwp_f h hx
    refine g_aload_n (pc' := 13)  hc rfl rfl rfl rfl ?_
    refine z_getR (pc' := 16)  hc rfl rfl rfl sh_13 rfl rfl ?_
    refine g_iload_n (pc' := 17)  hc rfl rfl rfl ?_
    have hb := (zwp_bnd h).1
    replace h := (zwp_bnd h).2
    refine z_iaload (pc' := 18) (v := (((I 15)) x2.toNatClampNeg)) hc rfl rfl sh_15 hb rfl rfl ?_
    refine g_istore (pc' := 20) (ls1 := [some (.ref 13), some (.ref 52), some (.int x1), some (.int x2), some (.int (((I 15)) x2.toNatClampNeg))]) hc rfl (zlt rfl) rfl rfl ?_
    refine g_iload (pc' := 22)  hc rfl rfl rfl ?_
    refine g_bipush (pc' := 24) (v := (-6 : Int32)) hc rfl zkb_m6 rfl ?_
    refine g_icmp_lt (pc' := 27) hc rfl rfl (fun hx => ?_) (fun hx => ?_)
    · replace h := zwp_t h hx
      refine g_iload (pc' := 68)  hc rfl rfl rfl ?_
      refine g_bipush (pc' := 70) (v := (-13 : Int32)) hc rfl zkb_m13 rfl ?_
      refine g_icmp_ne (pc' := 73) hc rfl rfl (fun hx => ?_) (fun hx => ?_)
      · replace h := zwp_f h hx
        refine g_iload_n (pc' := 101)  hc rfl rfl rfl ?_
        refine g_iconst (pc' := 102) (v := (1 : Int32)) hc rfl zki_1 rfl ?_
        refine g_icmp_lt (pc' := 105) hc rfl rfl (fun hx => ?_) (fun hx => ?_)
        · replace h := zwp_t h hx
          refine g_iinc (pc' := 136) (ls1 := [some (.ref 13), some (.ref 52), some (.int x1), some (.int (x2 + (1 : Int32))), some (.int (((I 15)) x2.toNatClampNeg))]) hc rfl rfl zki_1 (zlt rfl) rfl rfl ?_
          refine g_goto hc rfl ?_
          replace h := zwp_l h
          exact h (some (.int (((I 15)) x2.toNatClampNeg))) rfl
        · replace h := zwp_f h hx
          refine g_iinc (pc' := 108) (ls1 := [some (.ref 13), some (.ref 52), some (.int (x1 + (-1 : Int32))), some (.int x2), some (.int (((I 15)) x2.toNatClampNeg))]) hc rfl rfl zki_m1 (zlt rfl) rfl rfl ?_
          refine g_aload_n (pc' := 109)  hc rfl rfl rfl rfl ?_
          refine z_getR (pc' := 112)  hc rfl rfl rfl sh_13 rfl rfl ?_
          refine g_iload_n (pc' := 113)  hc rfl rfl rfl ?_
          refine g_iload (pc' := 115)  hc rfl rfl rfl ?_
          refine g_aload_n (pc' := 116)  hc rfl rfl rfl rfl ?_
          refine z_getR (pc' := 119)  hc rfl rfl rfl sh_13 rfl rfl ?_
          refine g_iload_n (pc' := 120)  hc rfl rfl rfl ?_
          have hb := (zwp_bnd h).1
          replace h := (zwp_bnd h).2
          refine z_iaload (pc' := 121) (v := (x4 (x1 + (-1 : Int32)).toNatClampNeg)) hc rfl rfl sh_14 hb rfl rfl ?_
          refine g_aload_n (pc' := 122)  hc rfl rfl rfl rfl ?_
          refine z_getR (pc' := 125)  hc rfl rfl rfl sh_13 rfl rfl ?_
          refine g_iload_n (pc' := 126)  hc rfl rfl rfl ?_
          refine g_iconst (pc' := 127) (v := (1 : Int32)) hc rfl zki_1 rfl ?_
          refine g_iadd (pc' := 128)  hc rfl rfl ?_
          have hb := (zwp_bnd h).1
          replace h := (zwp_bnd h).2
          refine z_iaload (pc' := 129) (v := (x4 ((x1 + (-1 : Int32)) + (1 : Int32)).toNatClampNeg)) hc rfl rfl sh_14 hb rfl rfl ?_
          refine z_stat (as := [.int (((I 15)) x2.toNatClampNeg), .int (x4 (x1 + (-1 : Int32)).toNatClampNeg), .int (x4 ((x1 + (-1 : Int32)) + (1 : Int32)).toNatClampNeg)]) (r := [.int (x1 + (-1 : Int32)), .ref 14]) hc rfl rfl rfl rfl zco_46 rfl rfl rfl ?_
          refine ok_X5_join (zdp hd rfl) (zwp_mono (zwp_bind h) ?_)
          rintro r9 h
          refine z_po (pc' := 132) (st' := [.int r9, .int (x1 + (-1 : Int32)), .ref 14]) (v := (some (.int r9))) (L' := [(14, none, x4)]) (K' := []) zco_46 rfl rfl rfl rfl rfl rfl rfl rfl ?_
          have hb := (zwp_bnd h).1
          replace h := (zwp_bnd h).2
          refine z_iastore (pc' := 133) (g := x4) (L' := [(14, none, (upd x4 (x1 + (-1 : Int32)).toNatClampNeg r9))]) hc rfl rfl sh_14 hb rfl rfl rfl rfl ?_
          refine g_iinc (pc' := 136) (ls1 := [some (.ref 13), some (.ref 52), some (.int (x1 + (-1 : Int32))), some (.int (x2 + (1 : Int32))), some (.int (((I 15)) x2.toNatClampNeg))]) hc rfl rfl zki_1 (zlt rfl) rfl rfl ?_
          refine g_goto hc rfl ?_
          replace h := zwp_l h
          exact h (some (.int (((I 15)) x2.toNatClampNeg))) rfl
      · replace h := zwp_t h hx
        refine g_iload_n (pc' := 74)  hc rfl rfl rfl ?_
        refine g_if_lt (pc' := 77) hc rfl rfl (fun hx => ?_) (fun hx => ?_)
        · replace h := zwp_t h hx
          refine g_iinc (pc' := 136) (ls1 := [some (.ref 13), some (.ref 52), some (.int x1), some (.int (x2 + (1 : Int32))), some (.int (((I 15)) x2.toNatClampNeg))]) hc rfl rfl zki_1 (zlt rfl) rfl rfl ?_
          refine g_goto hc rfl ?_
          replace h := zwp_l h
          exact h (some (.int (((I 15)) x2.toNatClampNeg))) rfl
        · replace h := zwp_f h hx
          refine g_aload_n (pc' := 78)  hc rfl rfl rfl rfl ?_
          refine z_getR (pc' := 81)  hc rfl rfl rfl sh_13 rfl rfl ?_
          refine g_iload_n (pc' := 82)  hc rfl rfl rfl ?_
          refine g_aload_n (pc' := 83)  hc rfl rfl rfl rfl ?_
          refine z_getR (pc' := 86)  hc rfl rfl rfl sh_13 rfl rfl ?_
          refine g_iload_n (pc' := 87)  hc rfl rfl rfl ?_
          have hb := (zwp_bnd h).1
          replace h := (zwp_bnd h).2
          refine z_iaload (pc' := 88) (v := (x4 x1.toNatClampNeg)) hc rfl rfl sh_14 hb rfl rfl ?_
          refine zjn (G := (fun (j10 : Int32) => pm_ev C_X5_value (d + 1) (pm_call M cost zext d) cost (false, false) 108 0 0 Q 96 [some (.ref 13), some (.ref 52), some (.int x1), some (.int x2), some (.int (((I 15)) x2.toNatClampNeg))] [.int j10, .int x1, .ref 14] 0 0 (zS p q I [(14, none, x4)] J []))) (zwp_bind h) ?_ (fun h => ?_)
          · rintro j10 h
            have hb := (zwp_bnd h).1
            replace h := (zwp_bnd h).2
            refine z_iastore (pc' := 97) (g := x4) (L' := [(14, none, (upd x4 x1.toNatClampNeg j10))]) hc rfl rfl sh_14 hb rfl rfl rfl rfl ?_
            refine g_goto hc rfl ?_
            refine g_iinc (pc' := 136) (ls1 := [some (.ref 13), some (.ref 52), some (.int x1), some (.int (x2 + (1 : Int32))), some (.int (((I 15)) x2.toNatClampNeg))]) hc rfl rfl zki_1 (zlt rfl) rfl rfl ?_
            refine g_goto hc rfl ?_
            replace h := zwp_l h
            exact h (some (.int (((I 15)) x2.toNatClampNeg))) rfl
          refine g_if_ne (pc' := 91) hc rfl rfl (fun hx => ?_) (fun hx => ?_)
          · replace h := zwp_f h hx
            refine g_iconst (pc' := 96) (v := (0 : Int32)) hc rfl zki_0 rfl ?_
            replace h := zws h
            exact h
          · replace h := zwp_t h hx
            refine g_iconst (pc' := 92) (v := (1 : Int32)) hc rfl zki_1 rfl ?_
            refine g_goto hc rfl ?_
            replace h := zws h
            exact h
    · replace h := zwp_f h hx
      refine g_iload_n (pc' := 28)  hc rfl rfl rfl ?_
      refine g_iconst (pc' := 29) (v := (1 : Int32)) hc rfl zki_1 rfl ?_
      refine g_iadd (pc' := 30)  hc rfl rfl ?_
      refine g_aload_n (pc' := 31)  hc rfl rfl rfl rfl ?_
      refine z_getR (pc' := 34)  hc rfl rfl rfl sh_13 rfl rfl ?_
      refine z_alen (pc' := 35) (v := (48 : Int32)) hc rfl rfl sh_14 ⟨by decide, by decide⟩ zkn_48 rfl ?_
      refine g_icmp_ge (pc' := 38) hc rfl rfl (fun hx => ?_) (fun hx => ?_)
      · replace h := zwp_t h hx
        refine g_iinc (pc' := 136) (ls1 := [some (.ref 13), some (.ref 52), some (.int x1), some (.int (x2 + (1 : Int32))), some (.int (((I 15)) x2.toNatClampNeg))]) hc rfl rfl zki_1 (zlt rfl) rfl rfl ?_
        refine g_goto hc rfl ?_
        replace h := zwp_l h
        exact h (some (.int (((I 15)) x2.toNatClampNeg))) rfl
      · replace h := zwp_f h hx
        refine g_iinc (pc' := 41) (ls1 := [some (.ref 13), some (.ref 52), some (.int (x1 + (1 : Int32))), some (.int x2), some (.int (((I 15)) x2.toNatClampNeg))]) hc rfl rfl zki_1 (zlt rfl) rfl rfl ?_
        refine g_aload_n (pc' := 42)  hc rfl rfl rfl rfl ?_
        refine z_getR (pc' := 45)  hc rfl rfl rfl sh_13 rfl rfl ?_
        refine g_iload_n (pc' := 46)  hc rfl rfl rfl ?_
        refine g_iload (pc' := 48)  hc rfl rfl rfl ?_
        refine zjn (G := (fun (j11 : Int32) => pm_ev C_X5_value (d + 1) (pm_call M cost zext d) cost (false, false) 108 0 0 Q 62 [some (.ref 13), some (.ref 52), some (.int (x1 + (1 : Int32))), some (.int x2), some (.int (((I 15)) x2.toNatClampNeg))] [.int j11, .int (x1 + (1 : Int32)), .ref 14] 0 0 (zS p q I [(14, none, x4)] J []))) (zwp_bind h) ?_ (fun h => ?_)
        · rintro j11 h
          have hb := (zwp_bnd h).1
          replace h := (zwp_bnd h).2
          refine z_iastore (pc' := 63) (g := x4) (L' := [(14, none, (upd x4 (x1 + (1 : Int32)).toNatClampNeg j11))]) hc rfl rfl sh_14 hb rfl rfl rfl rfl ?_
          refine g_goto hc rfl ?_
          refine g_iinc (pc' := 136) (ls1 := [some (.ref 13), some (.ref 52), some (.int (x1 + (1 : Int32))), some (.int (x2 + (1 : Int32))), some (.int (((I 15)) x2.toNatClampNeg))]) hc rfl rfl zki_1 (zlt rfl) rfl rfl ?_
          refine g_goto hc rfl ?_
          replace h := zwp_l h
          exact h (some (.int (((I 15)) x2.toNatClampNeg))) rfl
        refine g_if_lt (pc' := 51) hc rfl rfl (fun hx => ?_) (fun hx => ?_)
        · replace h := zwp_t h hx
          refine g_aload_n (pc' := 57)  hc rfl rfl rfl rfl ?_
          refine g_iconst (pc' := 58) (v := (-1 : Int32)) hc rfl zki_m1 rfl ?_
          refine g_iload (pc' := 60)  hc rfl rfl rfl ?_
          refine g_isub (pc' := 61)  hc rfl rfl ?_
          have hb := (zwp_bnd h).1
          replace h := (zwp_bnd h).2
          refine z_iaload (pc' := 62) (v := (((I 52)) ((-1 : Int32) - (((I 15)) x2.toNatClampNeg)).toNatClampNeg)) hc rfl rfl sh_52 hb rfl rfl ?_
          replace h := zws h
          exact h
        · replace h := zwp_f h hx
          refine g_iload (pc' := 53)  hc rfl rfl rfl ?_
          refine g_goto hc rfl ?_
          replace h := zws h
          exact h
set_option maxRecDepth 4000 in
theorem ok_X2_wantsToGo_51_7_31 {p q : Nat} {I : pI} {J : pJ} {a3 : Int32} {Q : pQ} {d : Nat} (hd : 3 ≤ d) (h : zwp (f_X2_wantsToGo a3 (I 15) (I 13 2) (I 14) (I 12) (I 7 9) (I 9) (I 10) (I 32) (I 31 3) (I 34) (I 31 0) (I 35) (I 33) (I 52)) (fun w => match w with | (r, o0, o1) => Q (.inl (some (.int r))) (zS p q I [(14, none, o0), (52, none, o1)] J []))) : pm_call M cost zext d 16 [.ref 51, .ref 7, .ref 31, .int a3] (pm_st 108 (shp p q) I J) Q := by
  obtain ⟨d, rfl⟩ := zd1 hd rfl
  have hc := pm_call_m (M := M) (cost := cost) zext_m d
  refine z_in (L := [(14, none, (I 14)), (52, none, (I 52))]) (K := []) (ls := [some (.ref 51), some (.ref 7), some (.ref 31), some (.int a3)]) zmt_16 zco_16 rfl rfl (zid_a (zid_a zid_n)) zid_n ?_
  delta f_X2_wantsToGo at h
  refine g_aload_n (pc' := 1)  hc rfl rfl rfl rfl ?_
  refine z_getR (pc' := 4)  hc rfl rfl rfl sh_7 rfl rfl ?_
  refine z_virt (as := []) (a := 13) (r := []) hc rfl rfl rfl rfl sh_13 rfl zco_43 rfl rfl rfl ?_
  refine ok_X5_isTold_13 (zdp hd rfl) (zwp_mono (zwp_bind h) ?_)
  rintro r1 h
  refine z_po (pc' := 7) (st' := [.int r1]) (v := (some (.int r1))) (L' := [(14, none, (I 14)), (52, none, (I 52))]) (K' := []) zco_43 rfl rfl rfl rfl rfl rfl rfl rfl ?_
  refine g_if_ne (pc' := 10) hc rfl rfl (fun hx => ?_) (fun hx => ?_)
  · replace h := zwp_f h hx
    refine g_aload_n (pc' := 28)  hc rfl rfl rfl rfl ?_
    refine g_aload_n (pc' := 29)  hc rfl rfl rfl rfl ?_
    refine g_aload_n (pc' := 30)  hc rfl rfl rfl rfl ?_
    refine g_iload_n (pc' := 31)  hc rfl rfl rfl ?_
    refine z_virt (as := [.ref 7, .ref 31, .int a3]) (a := 51) (r := []) hc rfl rfl rfl rfl sh_51 rfl zco_18 rfl rfl rfl ?_
    refine ok_X2_setValues_51_7_31 (zdp hd rfl) (zwp_mono (zwp_bind h) ?_)
    rintro o2 h
    refine z_po (pc' := 34) (st' := []) (v := none) (L' := [(14, none, (I 14)), (52, none, o2)]) (K' := []) zco_18 rfl rfl rfl rfl rfl rfl rfl rfl ?_
    refine g_aload_n (pc' := 35)  hc rfl rfl rfl rfl ?_
    refine z_getR (pc' := 38)  hc rfl rfl rfl sh_7 rfl rfl ?_
    refine g_aload_n (pc' := 39)  hc rfl rfl rfl rfl ?_
    refine z_getR (pc' := 42)  hc rfl rfl rfl sh_51 rfl rfl ?_
    refine z_virt (as := [.ref 52]) (a := 13) (r := []) hc rfl rfl rfl rfl sh_13 rfl zco_45 rfl rfl rfl ?_
    refine ok_X5_value_13_52 (zdp hd rfl) (zwp_mono (zwp_bind h) ?_)
    rintro ⟨r4, o3⟩ h
    refine z_po (pc' := 45) (st' := [.int r4]) (v := (some (.int r4))) (L' := [(14, none, o3), (52, none, o2)]) (K' := []) zco_45 rfl rfl rfl rfl rfl rfl rfl rfl ?_
    refine g_if_le (pc' := 48) hc rfl rfl (fun hx => ?_) (fun hx => ?_)
    · replace h := zwp_t h hx
      refine g_iconst (pc' := 53) (v := (0 : Int32)) hc rfl zki_0 rfl ?_
      replace h := zws h
      exact g_ireturn hc rfl rfl rfl (fun _ => ⟨rfl, rfl⟩) h
    · replace h := zwp_f h hx
      refine g_iconst (pc' := 49) (v := (1 : Int32)) hc rfl zki_1 rfl ?_
      refine g_goto hc rfl ?_
      replace h := zws h
      exact g_ireturn hc rfl rfl rfl (fun _ => ⟨rfl, rfl⟩) h
  · replace h := zwp_t h hx
    refine g_aload_n (pc' := 11)  hc rfl rfl rfl rfl ?_
    refine z_getR (pc' := 14)  hc rfl rfl rfl sh_31 rfl rfl ?_
    refine g_iload_n (pc' := 15)  hc rfl rfl rfl ?_
    have hb := (zwp_bnd h).1
    replace h := (zwp_bnd h).2
    refine z_iaload (pc' := 16) (v := (((I 33)) a3.toNatClampNeg)) hc rfl rfl sh_33 hb rfl rfl ?_
    refine g_bipush (pc' := 18) (v := (10 : Int32)) hc rfl zkb_10 rfl ?_
    refine g_icmp_ge (pc' := 21) hc rfl rfl (fun hx => ?_) (fun hx => ?_)
    · replace h := zwp_t h hx
      refine g_iconst (pc' := 26) (v := (0 : Int32)) hc rfl zki_0 rfl ?_
      replace h := zws h
      exact g_ireturn hc rfl rfl rfl (fun _ => ⟨rfl, rfl⟩) h
    · replace h := zwp_f h hx
      refine g_iconst (pc' := 22) (v := (1 : Int32)) hc rfl zki_1 rfl ?_
      refine g_goto hc rfl ?_
      replace h := zws h
      exact g_ireturn hc rfl rfl rfl (fun _ => ⟨rfl, rfl⟩) h
set_option maxRecDepth 4000 in
theorem ok_X3_cells_7 {p q : Nat} {I : pI} {J : pJ} {Q : pQ} {d : Nat} (hd : 1 ≤ d) (h : zwp (f_X3_cells (I 7 1) (I 7 0)) (fun r => Q (.inl (some (.int r))) (zS p q I [] J []))) : pm_call M cost zext d 21 [.ref 7] (pm_st 108 (shp p q) I J) Q := by
  obtain ⟨d, rfl⟩ := zd1 hd rfl
  have hc := pm_call_m (M := M) (cost := cost) zext_m d
  refine z_in (L := []) (K := []) (ls := [some (.ref 7)]) zmt_21 zco_21 rfl rfl zid_n zid_n ?_
  delta f_X3_cells at h
  refine g_aload_n (pc' := 1)  hc rfl rfl rfl rfl ?_
  refine z_getI (pc' := 4) (v := (I 7 0)) hc rfl rfl rfl sh_7 rfl rfl rfl ?_
  refine g_aload_n (pc' := 5)  hc rfl rfl rfl rfl ?_
  refine z_getI (pc' := 8) (v := (I 7 1)) hc rfl rfl rfl sh_7 rfl rfl rfl ?_
  refine g_imul (pc' := 9)  hc rfl rfl ?_
  replace h := zws h
  exact g_ireturn hc rfl rfl rfl (fun _ => ⟨rfl, rfl⟩) h
set_option maxRecDepth 4000 in
theorem ok_X3_beside_7 {p q : Nat} {I : pI} {J : pJ} {a1 : Int32} {a2 : Int32} {Q : pQ} {d : Nat} (hd : 2 ≤ d) (h : zwp (f_X3_beside a1 a2 (I 7 1) (I 7 0)) (fun r => Q (.inl (some (.int r))) (zS p q I [] J []))) : pm_call M cost zext d 28 [.ref 7, .int a1, .int a2] (pm_st 108 (shp p q) I J) Q := by
  obtain ⟨d, rfl⟩ := zd1 hd rfl
  have hc := pm_call_m (M := M) (cost := cost) zext_m d
  refine z_in (L := []) (K := []) (ls := [some (.ref 7), some (.int a1), some (.int a2), none]) zmt_28 zco_28 rfl rfl zid_n zid_n ?_
  delta f_X3_beside at h
  refine g_aload_n (pc' := 1)  hc rfl rfl rfl rfl ?_
  refine z_getI (pc' := 4) (v := (I 7 0)) hc rfl rfl rfl sh_7 rfl rfl rfl ?_
  refine zjn (G := (fun (j1 : Int32) => pm_ev C_X3_beside (d + 1) (pm_call M cost zext d) cost (false, false) 108 0 0 Q 17 [some (.ref 7), some (.int a1), some (.int a2), none] [.int j1] 0 0 (zS p q I [] J []))) (zwp_bind h) ?_ (fun h => ?_)
  · rintro j1 h
    refine g_istore_n (pc' := 18) (ls1 := [some (.ref 7), some (.int a1), some (.int a2), some (.int j1)]) hc rfl (zlt rfl) rfl rfl ?_
    refine g_iload_n (pc' := 19)  hc rfl rfl rfl ?_
    by_cases hx2 : a2 = (0 : Int32)
    · replace h := zwp_t h hx2
      refine z_switch (pc' := 48) hc rfl (by rw [hx2]; decide +kernel) ?_
      refine g_iload_n (pc' := 49)  hc rfl rfl rfl ?_
      replace h := zws h
      exact g_ireturn hc rfl rfl rfl (fun _ => ⟨rfl, rfl⟩) h
    replace h := zwp_f h hx2
    by_cases hx3 : a2 = (1 : Int32)
    · replace h := zwp_t h hx3
      refine z_switch (pc' := 50) hc rfl (by rw [hx3]; decide +kernel) ?_
      refine g_iload_n (pc' := 51)  hc rfl rfl rfl ?_
      refine g_aload_n (pc' := 52)  hc rfl rfl rfl rfl ?_
      refine z_getI (pc' := 55) (v := (I 7 0)) hc rfl rfl rfl sh_7 rfl rfl rfl ?_
      refine g_icmp_lt (pc' := 58) hc rfl rfl (fun hx => ?_) (fun hx => ?_)
      · replace h := zwp_t h hx
        refine g_iconst (pc' := 68) (v := (-1 : Int32)) hc rfl zki_m1 rfl ?_
        replace h := zws h
        exact g_ireturn hc rfl rfl rfl (fun _ => ⟨rfl, rfl⟩) h
      · replace h := zwp_f h hx
        refine g_iload_n (pc' := 59)  hc rfl rfl rfl ?_
        refine g_aload_n (pc' := 60)  hc rfl rfl rfl rfl ?_
        refine z_getI (pc' := 63) (v := (I 7 0)) hc rfl rfl rfl sh_7 rfl rfl rfl ?_
        refine g_isub (pc' := 64)  hc rfl rfl ?_
        refine g_goto hc rfl ?_
        replace h := zws h
        exact g_ireturn hc rfl rfl rfl (fun _ => ⟨rfl, rfl⟩) h
    replace h := zwp_f h hx3
    by_cases hx4 : a2 = (2 : Int32)
    · replace h := zwp_t h hx4
      refine z_switch (pc' := 69) hc rfl (by rw [hx4]; decide +kernel) ?_
      refine g_iload_n (pc' := 70)  hc rfl rfl rfl ?_
      refine g_iconst (pc' := 71) (v := (1 : Int32)) hc rfl zki_1 rfl ?_
      refine g_iadd (pc' := 72)  hc rfl rfl ?_
      refine g_aload_n (pc' := 73)  hc rfl rfl rfl rfl ?_
      refine z_getI (pc' := 76) (v := (I 7 0)) hc rfl rfl rfl sh_7 rfl rfl rfl ?_
      refine g_icmp_ge (pc' := 79) hc rfl rfl (fun hx => ?_) (fun hx => ?_)
      · replace h := zwp_t h hx
        refine g_iconst (pc' := 86) (v := (-1 : Int32)) hc rfl zki_m1 rfl ?_
        replace h := zws h
        exact g_ireturn hc rfl rfl rfl (fun _ => ⟨rfl, rfl⟩) h
      · replace h := zwp_f h hx
        refine g_iload_n (pc' := 80)  hc rfl rfl rfl ?_
        refine g_iconst (pc' := 81) (v := (1 : Int32)) hc rfl zki_1 rfl ?_
        refine g_iadd (pc' := 82)  hc rfl rfl ?_
        refine g_goto hc rfl ?_
        replace h := zws h
        exact g_ireturn hc rfl rfl rfl (fun _ => ⟨rfl, rfl⟩) h
    replace h := zwp_f h hx4
    by_cases hx5 : a2 = (3 : Int32)
    · replace h := zwp_t h hx5
      refine z_switch (pc' := 87) hc rfl (by rw [hx5]; decide +kernel) ?_
      refine g_iload_n (pc' := 88)  hc rfl rfl rfl ?_
      refine g_aload_n (pc' := 89)  hc rfl rfl rfl rfl ?_
      refine z_getI (pc' := 92) (v := (I 7 0)) hc rfl rfl rfl sh_7 rfl rfl rfl ?_
      refine g_iadd (pc' := 93)  hc rfl rfl ?_
      refine g_aload_n (pc' := 94)  hc rfl rfl rfl rfl ?_
      refine z_virt (as := []) (a := 7) (r := [.int (a1 + ((I 7 0)))]) hc rfl rfl rfl rfl sh_7 rfl zco_21 rfl rfl rfl ?_
      refine ok_X3_cells_7 (zdp hd rfl) (zwp_mono (zwp_bind h) ?_)
      rintro r6 h
      refine z_po (pc' := 97) (st' := [.int r6, .int (a1 + ((I 7 0)))]) (v := (some (.int r6))) (L' := []) (K' := []) zco_21 rfl rfl rfl rfl rfl rfl rfl rfl ?_
      refine g_icmp_ge (pc' := 100) hc rfl rfl (fun hx => ?_) (fun hx => ?_)
      · replace h := zwp_t h hx
        refine g_iconst (pc' := 110) (v := (-1 : Int32)) hc rfl zki_m1 rfl ?_
        replace h := zws h
        exact g_ireturn hc rfl rfl rfl (fun _ => ⟨rfl, rfl⟩) h
      · replace h := zwp_f h hx
        refine g_iload_n (pc' := 101)  hc rfl rfl rfl ?_
        refine g_aload_n (pc' := 102)  hc rfl rfl rfl rfl ?_
        refine z_getI (pc' := 105) (v := (I 7 0)) hc rfl rfl rfl sh_7 rfl rfl rfl ?_
        refine g_iadd (pc' := 106)  hc rfl rfl ?_
        refine g_goto hc rfl ?_
        replace h := zws h
        exact g_ireturn hc rfl rfl rfl (fun _ => ⟨rfl, rfl⟩) h
    replace h := zwp_f h hx5
    refine z_switch (pc' := 111) hc rfl (zsw_df (told := [(0 : Int32), (1 : Int32), (2 : Int32), (3 : Int32)]) (by decide +kernel) (by decide) rfl (zne_c hx2 (zne_c hx3 (zne_c hx4 (zne_c hx5 zne_n))))) ?_
    refine g_iload_n (pc' := 112)  hc rfl rfl rfl ?_
    refine g_if_le (pc' := 115) hc rfl rfl (fun hx => ?_) (fun hx => ?_)
    · replace h := zwp_t h hx
      refine g_iconst (pc' := 122) (v := (-1 : Int32)) hc rfl zki_m1 rfl ?_
      replace h := zws h
      exact g_ireturn hc rfl rfl rfl (fun _ => ⟨rfl, rfl⟩) h
    · replace h := zwp_f h hx
      refine g_iload_n (pc' := 116)  hc rfl rfl rfl ?_
      refine g_iconst (pc' := 117) (v := (1 : Int32)) hc rfl zki_1 rfl ?_
      refine g_isub (pc' := 118)  hc rfl rfl ?_
      refine g_goto hc rfl ?_
      replace h := zws h
      exact g_ireturn hc rfl rfl rfl (fun _ => ⟨rfl, rfl⟩) h
  refine g_if_le (pc' := 7) hc rfl rfl (fun hx => ?_) (fun hx => ?_)
  · replace h := zwp_t h hx
    refine g_iconst (pc' := 17) (v := (0 : Int32)) hc rfl zki_0 rfl ?_
    replace h := zws h
    exact h
  · replace h := zwp_f h hx
    refine g_iload_n (pc' := 8)  hc rfl rfl rfl ?_
    refine g_aload_n (pc' := 9)  hc rfl rfl rfl rfl ?_
    refine z_getI (pc' := 12) (v := (I 7 0)) hc rfl rfl rfl sh_7 rfl rfl rfl ?_
    have hz := (zwp_nz h).1
    replace h := (zwp_nz h).2
    refine g_irem (pc' := 13)  hc rfl hz rfl ?_
    refine g_goto hc rfl ?_
    replace h := zws h
    exact h
set_option maxRecDepth 4000 in
theorem ok_X8_isWall_31 {p q : Nat} {I : pI} {J : pJ} {a1 : Int32} {Q : pQ} {d : Nat} (hd : 1 ≤ d) (h : zwp (f_X8_isWall a1 (J 31 2)) (fun r => Q (.inl (some (.int r))) (zS p q I [] J []))) : pm_call M cost zext d 71 [.ref 31, .int a1] (pm_st 108 (shp p q) I J) Q := by
  obtain ⟨d, rfl⟩ := zd1 hd rfl
  have hc := pm_call_m (M := M) (cost := cost) zext_m d
  refine z_in (L := []) (K := []) (ls := [some (.ref 31), some (.int a1)]) zmt_71 zco_71 rfl rfl zid_n zid_n ?_
  delta f_X8_isWall at h
  refine g_aload_n (pc' := 1)  hc rfl rfl rfl rfl ?_
  refine z_getJ (pc' := 4) (v := (J 31 2)) hc rfl rfl rfl sh_31 rfl rfl rfl ?_
  refine g_iload_n (pc' := 5)  hc rfl rfl rfl ?_
  refine g_lushr (pc' := 6)  hc rfl rfl ?_
  refine g_lconst (pc' := 7) (v := (1 : Int64)) hc rfl zkl_1 rfl ?_
  refine g_land (pc' := 8)  hc rfl rfl ?_
  refine g_lconst (pc' := 9) (v := (0 : Int64)) hc rfl zkl_0 rfl ?_
  refine g_lcmp (pc' := 10)  hc rfl rfl ?_
  refine g_if_eq (pc' := 13) hc rfl rfl (fun hx => ?_) (fun hx => ?_)
  · replace h := zwp_t h hx
    refine g_iconst (pc' := 18) (v := (0 : Int32)) hc rfl zki_0 rfl ?_
    replace h := zws h
    exact g_ireturn hc rfl rfl rfl (fun _ => ⟨rfl, rfl⟩) h
  · replace h := zwp_f h hx
    refine g_iconst (pc' := 14) (v := (1 : Int32)) hc rfl zki_1 rfl ?_
    refine g_goto hc rfl ?_
    replace h := zws h
    exact g_ireturn hc rfl rfl rfl (fun _ => ⟨rfl, rfl⟩) h
set_option maxRecDepth 4000 in
theorem ok_X2_go_51_7_31 {p q : Nat} {I : pI} {J : pJ} {a3 : Int32} {Q : pQ} {d : Nat} (hd : 3 ≤ d) (h : zwp (f_X2_go a3 (I 7 1) (I 9) (I 10) (I 7 0) (I 32) (I 31 0) (I 35) (J 31 2)) (fun o0 => Q (.inl none) (zS p q I [(32, none, o0)] J []))) : pm_call M cost zext d 17 [.ref 51, .ref 7, .ref 31, .int a3] (pm_st 108 (shp p q) I J) Q := by
  obtain ⟨d, rfl⟩ := zd1 hd rfl
  have hc := pm_call_m (M := M) (cost := cost) zext_m d
  refine z_in (L := [(32, none, (I 32))]) (K := []) (ls := [some (.ref 51), some (.ref 7), some (.ref 31), some (.int a3), none]) zmt_17 zco_17 rfl rfl (zid_a zid_n) zid_n ?_
  delta f_X2_go at h
  refine g_aload_n (pc' := 1)  hc rfl rfl rfl rfl ?_
  refine g_aload_n (pc' := 2)  hc rfl rfl rfl rfl ?_
  refine z_getR (pc' := 5)  hc rfl rfl rfl sh_31 rfl rfl ?_
  refine g_iload_n (pc' := 6)  hc rfl rfl rfl ?_
  have hb := (zwp_bnd h).1
  replace h := (zwp_bnd h).2
  refine z_iaload (pc' := 7) (v := (((I 32)) a3.toNatClampNeg)) hc rfl rfl sh_32 hb rfl rfl ?_
  refine g_aload_n (pc' := 8)  hc rfl rfl rfl rfl ?_
  refine g_iload_n (pc' := 9)  hc rfl rfl rfl ?_
  refine g_aload_n (pc' := 10)  hc rfl rfl rfl rfl ?_
  refine z_getI (pc' := 13) (v := (I 31 0)) hc rfl rfl rfl sh_31 rfl rfl rfl ?_
  refine g_aload_n (pc' := 14)  hc rfl rfl rfl rfl ?_
  refine z_getR (pc' := 17)  hc rfl rfl rfl sh_31 rfl rfl ?_
  refine g_iload_n (pc' := 18)  hc rfl rfl rfl ?_
  have hb := (zwp_bnd h).1
  replace h := (zwp_bnd h).2
  refine z_iaload (pc' := 19) (v := (((I 35)) a3.toNatClampNeg)) hc rfl rfl sh_35 hb rfl rfl ?_
  refine g_iadd (pc' := 20)  hc rfl rfl ?_
  refine z_virt (as := [.int a3, .int (((I 31 0)) + (((I 35)) a3.toNatClampNeg))]) (a := 7) (r := [.int (((I 32)) a3.toNatClampNeg), .ref 7]) hc rfl rfl rfl rfl sh_7 rfl zco_24 rfl rfl rfl ?_
  refine ok_X3_stepOf_7 (zdp hd rfl) (zwp_mono (zwp_bind h) ?_)
  rintro r1 h
  refine z_po (pc' := 23) (st' := [.int r1, .int (((I 32)) a3.toNatClampNeg), .ref 7]) (v := (some (.int r1))) (L' := [(32, none, (I 32))]) (K' := []) zco_24 rfl rfl rfl rfl rfl rfl rfl rfl ?_
  refine z_virt (as := [.int (((I 32)) a3.toNatClampNeg), .int r1]) (a := 7) (r := []) hc rfl rfl rfl rfl sh_7 rfl zco_28 rfl rfl rfl ?_
  refine ok_X3_beside_7 (zdp hd rfl) (zwp_mono (zwp_bind h) ?_)
  rintro r2 h
  refine z_po (pc' := 26) (st' := [.int r2]) (v := (some (.int r2))) (L' := [(32, none, (I 32))]) (K' := []) zco_28 rfl rfl rfl rfl rfl rfl rfl rfl ?_
  refine g_istore (pc' := 28) (ls1 := [some (.ref 51), some (.ref 7), some (.ref 31), some (.int a3), some (.int r2)]) hc rfl (zlt rfl) rfl rfl ?_
  refine g_iload (pc' := 30)  hc rfl rfl rfl ?_
  refine g_iconst (pc' := 31) (v := (-1 : Int32)) hc rfl zki_m1 rfl ?_
  refine g_icmp_eq (pc' := 34) hc rfl rfl (fun hx => ?_) (fun hx => ?_)
  · replace h := zwp_t h hx
    replace h := zws h
    exact g_return hc rfl rfl (fun _ => ⟨rfl, rfl⟩) h
  · replace h := zwp_f h hx
    refine g_aload_n (pc' := 35)  hc rfl rfl rfl rfl ?_
    refine g_iload (pc' := 37)  hc rfl rfl rfl ?_
    refine z_virt (as := [.int r2]) (a := 31) (r := []) hc rfl rfl rfl rfl sh_31 rfl zco_71 rfl rfl rfl ?_
    refine ok_X8_isWall_31 (zdp hd rfl) (zwp_mono (zwp_bind h) ?_)
    rintro r3 h
    refine z_po (pc' := 40) (st' := [.int r3]) (v := (some (.int r3))) (L' := [(32, none, (I 32))]) (K' := []) zco_71 rfl rfl rfl rfl rfl rfl rfl rfl ?_
    refine g_if_ne (pc' := 43) hc rfl rfl (fun hx => ?_) (fun hx => ?_)
    · replace h := zwp_f h hx
      replace h := zws h
      exact g_return hc rfl rfl (fun _ => ⟨rfl, rfl⟩) h
    · replace h := zwp_t h hx
      refine g_aload_n (pc' := 44)  hc rfl rfl rfl rfl ?_
      refine z_getR (pc' := 47)  hc rfl rfl rfl sh_31 rfl rfl ?_
      refine g_iload_n (pc' := 48)  hc rfl rfl rfl ?_
      refine g_iload (pc' := 50)  hc rfl rfl rfl ?_
      have hb := (zwp_bnd h).1
      replace h := (zwp_bnd h).2
      refine z_iastore (pc' := 51) (g := (I 32)) (L' := [(32, none, (upd ((I 32)) a3.toNatClampNeg r2))]) hc rfl rfl sh_32 hb rfl rfl rfl rfl ?_
      replace h := zws h
      exact g_return hc rfl rfl (fun _ => ⟨rfl, rfl⟩) h
set_option maxRecDepth 4000 in
theorem ok_X2_passHour_51_7_31 {p q : Nat} {I : pI} {J : pJ} {a3 : Int32} {Q : pQ} {d : Nat} (hd : 4 ≤ d) (h : zwp (f_X2_passHour a3 (I 7 3) (I 15) (I 13 2) (I 14) (I 7 1) (I 18) (I 16 2) (I 17) (I 12) (I 7 9) (I 9) (I 10) (I 7 0) (I 32) (I 31 3) (I 34) (I 31 0) (I 35) (I 33) (J 31 2) (I 52)) (fun w => match w with | (o0, o1, o2, o3, o4, o5, o6) => Q (.inl none) (zS p q I [(14, none, o0), (17, none, o1), (31, some 0, fun _ => o4), (32, none, o2), (33, none, o5), (34, none, o3), (52, none, o6)] J []))) : pm_call M cost zext d 14 [.ref 51, .ref 7, .ref 31, .int a3] (pm_st 108 (shp p q) I J) Q := by
  obtain ⟨d, rfl⟩ := zd1 hd rfl
  have hc := pm_call_m (M := M) (cost := cost) zext_m d
  refine z_in (L := [(14, none, (I 14)), (17, none, (I 17)), (31, some 0, fun _ => (I 31 0)), (32, none, (I 32)), (33, none, (I 33)), (34, none, (I 34)), (52, none, (I 52))]) (K := []) (ls := [some (.ref 51), some (.ref 7), some (.ref 31), some (.int a3), none]) zmt_14 zco_14 rfl rfl (zid_a (zid_a (zid_s (zid_a (zid_a (zid_a (zid_a zid_n))))))) zid_n ?_
  delta f_X2_passHour at h
  refine g_iconst (pc' := 1) (v := (0 : Int32)) hc rfl zki_0 rfl ?_
  refine g_istore (pc' := 3) (ls1 := [some (.ref 51), some (.ref 7), some (.ref 31), some (.int a3), some (.int (0 : Int32))]) hc rfl (zlt rfl) rfl rfl ?_
  refine zjn (G := (fun (g : (Nat → Int32) × (Nat → Int32) × (Nat → Int32) × (Nat → Int32) × (Nat → Int32)) => match g with | (y8, y9, y10, y11, y12) => ∀ z7 : Option Value, znl z7 = true → pm_ev C_X2_passHour (d + 1) (pm_call M cost zext d) cost (false, false) 108 0 0 Q 62 [some (.ref 51), some (.ref 7), some (.ref 31), some (.int a3), z7] [] 0 0 (zS p q I [(14, none, y8), (17, none, y9), (31, some 0, fun _ => (I 31 0)), (32, none, y10), (33, none, y11), (34, none, (I 34)), (52, none, y12)] J []))) (zwp_bind h) ?_ (fun h => ?_)
  · rintro ⟨y8, y9, y10, y11, y12⟩ h z7 hz7
    refine g_iconst (pc' := 63) (v := (0 : Int32)) hc rfl zki_0 rfl ?_
    refine g_istore (pc' := 65) (ls1 := [some (.ref 51), some (.ref 7), some (.ref 31), some (.int a3), some (.int (0 : Int32))]) hc rfl (zlt rfl) rfl rfl ?_
    refine zjn (G := (fun (y16 : (Nat → Int32)) => ∀ z15 : Option Value, znl z15 = true → pm_ev C_X2_passHour (d + 1) (pm_call M cost zext d) cost (false, false) 108 0 0 Q 100 [some (.ref 51), some (.ref 7), some (.ref 31), some (.int a3), z15] [] 0 0 (zS p q I [(14, none, y8), (17, none, y9), (31, some 0, fun _ => (I 31 0)), (32, none, y10), (33, none, y11), (34, none, y16), (52, none, y12)] J []))) (zwp_bind h) ?_ (fun h => ?_)
    · rintro y16 h z15 hz15
      refine g_aload_n (pc' := 101)  hc rfl rfl rfl rfl ?_
      refine g_dup (pc' := 102)  hc rfl rfl rfl ?_
      refine z_getI (pc' := 105) (v := (I 31 0)) hc rfl rfl rfl sh_31 rfl rfl rfl ?_
      refine g_iconst (pc' := 106) (v := (1 : Int32)) hc rfl zki_1 rfl ?_
      refine g_iadd (pc' := 107)  hc rfl rfl ?_
      refine z_putI (pc' := 110) (L' := [(14, none, y8), (17, none, y9), (31, some 0, fun _ => (((I 31 0)) + (1 : Int32))), (32, none, y10), (33, none, y11), (34, none, y16), (52, none, y12)]) hc rfl rfl rfl sh_31 rfl zft_8_0 rfl (fun h => Bool.noConfusion h) rfl rfl rfl ?_
      replace h := zws h
      exact g_return hc rfl rfl (fun _ => ⟨rfl, rfl⟩) h
    refine zitr_ev (G := (fun (g : Int32 × (Nat → Int32)) => match g with | (x13, x14) => pm_ev C_X2_passHour (d + 1) (pm_call M cost zext d) cost (false, false) 108 0 0 Q 65 [some (.ref 51), some (.ref 7), some (.ref 31), some (.int a3), some (.int x13)] [] 0 0 (zS p q I [(14, none, y8), (17, none, y9), (31, some 0, fun _ => (I 31 0)), (32, none, y10), (33, none, y11), (34, none, x14), (52, none, y12)] J []))) ?_ zFU ((0 : Int32), (I 34)) h
    rintro ⟨x13, x14⟩ h
    refine g_iload (pc' := 67)  hc rfl rfl rfl ?_
    refine g_aload_n (pc' := 68)  hc rfl rfl rfl rfl ?_
    refine z_getI (pc' := 71) (v := (I 7 3)) hc rfl rfl rfl sh_7 rfl rfl rfl ?_
    refine g_icmp_ge (pc' := 74) hc rfl rfl (fun hx => ?_) (fun hx => ?_)
    · replace h := zwp_t h hx
      replace h := zwp_r h
      exact h (some (.int x13)) rfl
    · replace h := zwp_f h hx
      refine g_aload_n (pc' := 75)  hc rfl rfl rfl rfl ?_
      refine z_getR (pc' := 78)  hc rfl rfl rfl sh_31 rfl rfl ?_
      refine g_iload (pc' := 80)  hc rfl rfl rfl ?_
      refine g_iconst (pc' := 81) (v := (0 : Int32)) hc rfl zki_0 rfl ?_
      refine g_aload_n (pc' := 82)  hc rfl rfl rfl rfl ?_
      refine z_getR (pc' := 85)  hc rfl rfl rfl sh_31 rfl rfl ?_
      refine g_iload (pc' := 87)  hc rfl rfl rfl ?_
      have hb := (zwp_bnd h).1
      replace h := (zwp_bnd h).2
      refine z_iaload (pc' := 88) (v := (x14 x13.toNatClampNeg)) hc rfl rfl sh_34 hb rfl rfl ?_
      refine g_iconst (pc' := 89) (v := (1 : Int32)) hc rfl zki_1 rfl ?_
      refine g_isub (pc' := 90)  hc rfl rfl ?_
      refine z_max (pc' := 93)  hc rfl rfl (zdq hd rfl) rfl rfl ?_
      have hb := (zwp_bnd h).1
      replace h := (zwp_bnd h).2
      refine z_iastore (pc' := 94) (g := x14) (L' := [(14, none, y8), (17, none, y9), (31, some 0, fun _ => (I 31 0)), (32, none, y10), (33, none, y11), (34, none, (upd x14 x13.toNatClampNeg (if (0 : Int32) < ((x14 x13.toNatClampNeg) - (1 : Int32)) then ((x14 x13.toNatClampNeg) - (1 : Int32)) else (0 : Int32)))), (52, none, y12)]) hc rfl rfl sh_34 hb rfl rfl rfl rfl ?_
      refine g_iinc (pc' := 97) (ls1 := [some (.ref 51), some (.ref 7), some (.ref 31), some (.int a3), some (.int (x13 + (1 : Int32)))]) hc rfl rfl zki_1 (zlt rfl) rfl rfl ?_
      refine g_goto hc rfl ?_
      replace h := zwp_l h
      exact h
  refine zitr_ev (G := (fun (g : Int32 × (Nat → Int32) × (Nat → Int32) × (Nat → Int32) × (Nat → Int32) × (Nat → Int32)) => match g with | (x1, x2, x3, x4, x5, x6) => pm_ev C_X2_passHour (d + 1) (pm_call M cost zext d) cost (false, false) 108 0 0 Q 3 [some (.ref 51), some (.ref 7), some (.ref 31), some (.int a3), some (.int x1)] [] 0 0 (zS p q I [(14, none, x2), (17, none, x3), (31, some 0, fun _ => (I 31 0)), (32, none, x4), (33, none, x5), (34, none, (I 34)), (52, none, x6)] J []))) ?_ zFU ((0 : Int32), (I 14), (I 17), (I 32), (I 33), (I 52)) h
  rintro ⟨x1, x2, x3, x4, x5, x6⟩ h
  refine g_iload (pc' := 5)  hc rfl rfl rfl ?_
  refine g_aload_n (pc' := 6)  hc rfl rfl rfl rfl ?_
  refine z_getI (pc' := 9) (v := (I 7 3)) hc rfl rfl rfl sh_7 rfl rfl rfl ?_
  refine g_icmp_ge (pc' := 12) hc rfl rfl (fun hx => ?_) (fun hx => ?_)
  · replace h := zwp_t h hx
    replace h := zwp_r h
    exact h (some (.int x1)) rfl
  · replace h := zwp_f h hx
    refine g_aload_n (pc' := 13)  hc rfl rfl rfl rfl ?_
    refine z_getR (pc' := 16)  hc rfl rfl rfl sh_31 rfl rfl ?_
    refine g_iload (pc' := 18)  hc rfl rfl rfl ?_
    have hb := (zwp_bnd h).1
    replace h := (zwp_bnd h).2
    refine z_iaload (pc' := 19) (v := (((I 34)) x1.toNatClampNeg)) hc rfl rfl sh_34 hb rfl rfl ?_
    refine g_if_le (pc' := 22) hc rfl rfl (fun hx => ?_) (fun hx => ?_)
    · replace h := zwp_t h hx
      refine g_aload_n (pc' := 38)  hc rfl rfl rfl rfl ?_
      refine g_aload_n (pc' := 39)  hc rfl rfl rfl rfl ?_
      refine g_aload_n (pc' := 40)  hc rfl rfl rfl rfl ?_
      refine g_iload (pc' := 42)  hc rfl rfl rfl ?_
      refine z_virt (as := [.ref 7, .ref 31, .int x1]) (a := 51) (r := []) hc rfl rfl rfl rfl sh_51 rfl zco_16 rfl rfl rfl ?_
      refine ok_X2_wantsToGo_51_7_31 (zdp hd rfl) (zwp_mono (zwp_bind h) ?_)
      rintro ⟨r19, o17, o18⟩ h
      refine z_po (pc' := 45) (st' := [.int r19]) (v := (some (.int r19))) (L' := [(14, none, o17), (17, none, x3), (31, some 0, fun _ => (I 31 0)), (32, none, x4), (33, none, x5), (34, none, (I 34)), (52, none, o18)]) (K' := []) zco_16 rfl rfl rfl rfl rfl rfl rfl rfl ?_
      refine g_if_eq (pc' := 48) hc rfl rfl (fun hx => ?_) (fun hx => ?_)
      · replace h := zwp_t h hx
        refine g_iinc (pc' := 59) (ls1 := [some (.ref 51), some (.ref 7), some (.ref 31), some (.int a3), some (.int (x1 + (1 : Int32)))]) hc rfl rfl zki_1 (zlt rfl) rfl rfl ?_
        refine g_goto hc rfl ?_
        replace h := zwp_l h
        exact h
      · replace h := zwp_f h hx
        refine g_aload_n (pc' := 49)  hc rfl rfl rfl rfl ?_
        refine g_aload_n (pc' := 50)  hc rfl rfl rfl rfl ?_
        refine g_aload_n (pc' := 51)  hc rfl rfl rfl rfl ?_
        refine g_iload (pc' := 53)  hc rfl rfl rfl ?_
        refine z_virt (as := [.ref 7, .ref 31, .int x1]) (a := 51) (r := []) hc rfl rfl rfl rfl sh_51 rfl zco_17 rfl rfl rfl ?_
        refine ok_X2_go_51_7_31 (zdp hd rfl) (zwp_mono (zwp_bind h) ?_)
        rintro o20 h
        refine z_po (pc' := 56) (st' := []) (v := none) (L' := [(14, none, o17), (17, none, x3), (31, some 0, fun _ => (I 31 0)), (32, none, o20), (33, none, x5), (34, none, (I 34)), (52, none, o18)]) (K' := []) zco_17 rfl rfl rfl rfl rfl rfl rfl rfl ?_
        refine g_iinc (pc' := 59) (ls1 := [some (.ref 51), some (.ref 7), some (.ref 31), some (.int a3), some (.int (x1 + (1 : Int32)))]) hc rfl rfl zki_1 (zlt rfl) rfl rfl ?_
        refine g_goto hc rfl ?_
        replace h := zwp_l h
        exact h
    · replace h := zwp_f h hx
      refine g_iload_n (pc' := 23)  hc rfl rfl rfl ?_
      refine g_if_ne (pc' := 26) hc rfl rfl (fun hx => ?_) (fun hx => ?_)
      · replace h := zwp_f h hx
        refine g_aload_n (pc' := 38)  hc rfl rfl rfl rfl ?_
        refine g_aload_n (pc' := 39)  hc rfl rfl rfl rfl ?_
        refine g_aload_n (pc' := 40)  hc rfl rfl rfl rfl ?_
        refine g_iload (pc' := 42)  hc rfl rfl rfl ?_
        refine z_virt (as := [.ref 7, .ref 31, .int x1]) (a := 51) (r := []) hc rfl rfl rfl rfl sh_51 rfl zco_16 rfl rfl rfl ?_
        refine ok_X2_wantsToGo_51_7_31 (zdp hd rfl) (zwp_mono (zwp_bind h) ?_)
        rintro ⟨r23, o21, o22⟩ h
        refine z_po (pc' := 45) (st' := [.int r23]) (v := (some (.int r23))) (L' := [(14, none, o21), (17, none, x3), (31, some 0, fun _ => (I 31 0)), (32, none, x4), (33, none, x5), (34, none, (I 34)), (52, none, o22)]) (K' := []) zco_16 rfl rfl rfl rfl rfl rfl rfl rfl ?_
        refine g_if_eq (pc' := 48) hc rfl rfl (fun hx => ?_) (fun hx => ?_)
        · replace h := zwp_t h hx
          refine g_iinc (pc' := 59) (ls1 := [some (.ref 51), some (.ref 7), some (.ref 31), some (.int a3), some (.int (x1 + (1 : Int32)))]) hc rfl rfl zki_1 (zlt rfl) rfl rfl ?_
          refine g_goto hc rfl ?_
          replace h := zwp_l h
          exact h
        · replace h := zwp_f h hx
          refine g_aload_n (pc' := 49)  hc rfl rfl rfl rfl ?_
          refine g_aload_n (pc' := 50)  hc rfl rfl rfl rfl ?_
          refine g_aload_n (pc' := 51)  hc rfl rfl rfl rfl ?_
          refine g_iload (pc' := 53)  hc rfl rfl rfl ?_
          refine z_virt (as := [.ref 7, .ref 31, .int x1]) (a := 51) (r := []) hc rfl rfl rfl rfl sh_51 rfl zco_17 rfl rfl rfl ?_
          refine ok_X2_go_51_7_31 (zdp hd rfl) (zwp_mono (zwp_bind h) ?_)
          rintro o24 h
          refine z_po (pc' := 56) (st' := []) (v := none) (L' := [(14, none, o21), (17, none, x3), (31, some 0, fun _ => (I 31 0)), (32, none, o24), (33, none, x5), (34, none, (I 34)), (52, none, o22)]) (K' := []) zco_17 rfl rfl rfl rfl rfl rfl rfl rfl ?_
          refine g_iinc (pc' := 59) (ls1 := [some (.ref 51), some (.ref 7), some (.ref 31), some (.int a3), some (.int (x1 + (1 : Int32)))]) hc rfl rfl zki_1 (zlt rfl) rfl rfl ?_
          refine g_goto hc rfl ?_
          replace h := zwp_l h
          exact h
      · replace h := zwp_t h hx
        refine g_aload_n (pc' := 27)  hc rfl rfl rfl rfl ?_
        refine g_aload_n (pc' := 28)  hc rfl rfl rfl rfl ?_
        refine g_aload_n (pc' := 29)  hc rfl rfl rfl rfl ?_
        refine g_iload (pc' := 31)  hc rfl rfl rfl ?_
        refine z_virt (as := [.ref 7, .ref 31, .int x1]) (a := 51) (r := []) hc rfl rfl rfl rfl sh_51 rfl zco_15 rfl rfl rfl ?_
        refine ok_X2_hurt_51_7_31 (zdp hd rfl) (zwp_mono (zwp_bind h) ?_)
        rintro ⟨o25, o26, o27⟩ h
        refine z_po (pc' := 34) (st' := []) (v := none) (L' := [(14, none, x2), (17, none, o25), (31, some 0, fun _ => (I 31 0)), (32, none, x4), (33, none, o26), (34, none, (I 34)), (52, none, o27)]) (K' := []) zco_15 rfl rfl rfl rfl rfl rfl rfl rfl ?_
        refine g_goto hc rfl ?_
        refine g_iinc (pc' := 59) (ls1 := [some (.ref 51), some (.ref 7), some (.ref 31), some (.int a3), some (.int (x1 + (1 : Int32)))]) hc rfl rfl zki_1 (zlt rfl) rfl rfl ?_
        refine g_goto hc rfl ?_
        replace h := zwp_l h
        exact h
set_option maxRecDepth 4000 in
theorem ok_X2_passHours_51_7_31 {p q : Nat} {I : pI} {J : pJ} {a3 : Int32} {Q : pQ} {d : Nat} (hd : 5 ≤ d) (h : zwp (f_X2_passHours a3 (I 7 12) (I 7 3) (I 15) (I 13 2) (I 14) (I 7 1) (I 18) (I 16 2) (I 17) (I 12) (I 7 9) (I 9) (I 10) (I 7 0) (I 32) (I 31 3) (I 34) (I 31 0) (I 35) (I 33) (J 31 2) (I 52)) (fun w => match w with | (o0, o1, o2, o3, o4, o5, o6) => Q (.inl none) (zS p q I [(14, none, o0), (17, none, o1), (31, some 0, fun _ => o4), (32, none, o2), (33, none, o5), (34, none, o3), (52, none, o6)] J []))) : pm_call M cost zext d 13 [.ref 51, .ref 7, .ref 31, .int a3] (pm_st 108 (shp p q) I J) Q := by
  obtain ⟨d, rfl⟩ := zd1 hd rfl
  have hc := pm_call_m (M := M) (cost := cost) zext_m d
  refine z_in (L := [(14, none, (I 14)), (17, none, (I 17)), (31, some 0, fun _ => (I 31 0)), (32, none, (I 32)), (33, none, (I 33)), (34, none, (I 34)), (52, none, (I 52))]) (K := []) (ls := [some (.ref 51), some (.ref 7), some (.ref 31), some (.int a3), none]) zmt_13 zco_13 rfl rfl (zid_a (zid_a (zid_s (zid_a (zid_a (zid_a (zid_a zid_n))))))) zid_n ?_
  delta f_X2_passHours at h
  refine g_iconst (pc' := 1) (v := (0 : Int32)) hc rfl zki_0 rfl ?_
  refine g_istore (pc' := 3) (ls1 := [some (.ref 51), some (.ref 7), some (.ref 31), some (.int a3), some (.int (0 : Int32))]) hc rfl (zlt rfl) rfl rfl ?_
  refine zjn (G := (fun (g : (Nat → Int32) × (Nat → Int32) × (Nat → Int32) × (Nat → Int32) × Int32 × (Nat → Int32) × (Nat → Int32)) => match g with | (y10, y11, y12, y13, y14, y15, y16) => ∀ z9 : Option Value, znl z9 = true → pm_ev C_X2_passHours (d + 1) (pm_call M cost zext d) cost (false, false) 108 0 0 Q 29 [some (.ref 51), some (.ref 7), some (.ref 31), some (.int a3), z9] [] 0 0 (zS p q I [(14, none, y10), (17, none, y11), (31, some 0, fun _ => y14), (32, none, y12), (33, none, y15), (34, none, y13), (52, none, y16)] J []))) (zwp_bind h) ?_ (fun h => ?_)
  · rintro ⟨y10, y11, y12, y13, y14, y15, y16⟩ h z9 hz9
    replace h := zws h
    exact g_return hc rfl rfl (fun _ => ⟨rfl, rfl⟩) h
  refine zitr_ev (G := (fun (g : Int32 × (Nat → Int32) × (Nat → Int32) × (Nat → Int32) × (Nat → Int32) × Int32 × (Nat → Int32) × (Nat → Int32)) => match g with | (x1, x2, x3, x4, x5, x6, x7, x8) => pm_ev C_X2_passHours (d + 1) (pm_call M cost zext d) cost (false, false) 108 0 0 Q 3 [some (.ref 51), some (.ref 7), some (.ref 31), some (.int a3), some (.int x1)] [] 0 0 (zS p q I [(14, none, x2), (17, none, x3), (31, some 0, fun _ => x6), (32, none, x4), (33, none, x7), (34, none, x5), (52, none, x8)] J []))) ?_ zFU ((0 : Int32), (I 14), (I 17), (I 32), (I 34), (I 31 0), (I 33), (I 52)) h
  rintro ⟨x1, x2, x3, x4, x5, x6, x7, x8⟩ h
  refine g_iload (pc' := 5)  hc rfl rfl rfl ?_
  refine g_iload_n (pc' := 6)  hc rfl rfl rfl ?_
  refine g_icmp_ge (pc' := 9) hc rfl rfl (fun hx => ?_) (fun hx => ?_)
  · replace h := zwp_t h hx
    replace h := zwp_r h
    exact h (some (.int x1)) rfl
  · replace h := zwp_f h hx
    refine g_aload_n (pc' := 10)  hc rfl rfl rfl rfl ?_
    refine g_aload_n (pc' := 11)  hc rfl rfl rfl rfl ?_
    refine g_aload_n (pc' := 12)  hc rfl rfl rfl rfl ?_
    refine g_aload_n (pc' := 13)  hc rfl rfl rfl rfl ?_
    refine g_aload_n (pc' := 14)  hc rfl rfl rfl rfl ?_
    refine z_getI (pc' := 17) (v := x6) hc rfl rfl rfl sh_31 rfl rfl rfl ?_
    refine z_virt (as := [.int x6]) (a := 7) (r := [.ref 31, .ref 7, .ref 51]) hc rfl rfl rfl rfl sh_7 rfl zco_23 rfl rfl rfl ?_
    refine ok_X3_isDull_7 (zdp hd rfl) (zwp_mono (zwp_bind h) ?_)
    rintro r17 h
    refine z_po (pc' := 20) (st' := [.int r17, .ref 31, .ref 7, .ref 51]) (v := (some (.int r17))) (L' := [(14, none, x2), (17, none, x3), (31, some 0, fun _ => x6), (32, none, x4), (33, none, x7), (34, none, x5), (52, none, x8)]) (K' := []) zco_23 rfl rfl rfl rfl rfl rfl rfl rfl ?_
    refine z_virt (as := [.ref 7, .ref 31, .int r17]) (a := 51) (r := []) hc rfl rfl rfl rfl sh_51 rfl zco_14 rfl rfl rfl ?_
    refine ok_X2_passHour_51_7_31 (zdp hd rfl) (zwp_mono (zwp_bind h) ?_)
    rintro ⟨o18, o19, o20, o21, o22, o23, o24⟩ h
    refine z_po (pc' := 23) (st' := []) (v := none) (L' := [(14, none, o18), (17, none, o19), (31, some 0, fun _ => o22), (32, none, o20), (33, none, o23), (34, none, o21), (52, none, o24)]) (K' := []) zco_14 rfl rfl rfl rfl rfl rfl rfl rfl ?_
    refine g_iinc (pc' := 26) (ls1 := [some (.ref 51), some (.ref 7), some (.ref 31), some (.int a3), some (.int (x1 + (1 : Int32)))]) hc rfl rfl zki_1 (zlt rfl) rfl rfl ?_
    refine g_goto hc rfl ?_
    replace h := zwp_l h
    exact h
set_option maxRecDepth 4000 in
theorem ok_X11_hours_0_p {I : pI} {J : pJ} {a1 : Int32} {Q : pQ} {d : Nat} (hd : 6 ≤ d) (h : zwp (f_X11_hours a1 (I 36 2) (I 36 1) (I 37) (I 52) (I 32) (I 31 3) (I 34) (I 31 0) (I 35) (I 31 1) (I 33) (J 31 2) (I 7 12) (I 7 3) (I 15) (I 13 2) (I 14) (I 7 1) (I 18) (I 16 2) (I 17) (I 12) (I 7 9) (I 9) (I 10) (I 7 0) (I 6)) (fun w => match w with | (r, o0, o1, o2, o3, o4, o5, o6, o7, o8, o9, o10) => Q (.inl (some (.int r))) (zS 7 19 I [(6, none, o10), (14, none, o8), (17, none, o9), (31, some 0, fun _ => o6), (32, none, o4), (33, none, o7), (34, none, o5), (36, some 1, fun _ => o1), (36, some 2, fun _ => o0), (37, none, o2), (52, none, o3)] J []))) : pm_call M cost zext d 103 [.ref 0, .int a1] (pm_st 108 (shp 7 19) I J) Q := by
  obtain ⟨d, rfl⟩ := zd1 hd rfl
  have hc := pm_call_m (M := M) (cost := cost) zext_m d
  refine z_in (L := [(6, none, (I 6)), (14, none, (I 14)), (17, none, (I 17)), (31, some 0, fun _ => (I 31 0)), (32, none, (I 32)), (33, none, (I 33)), (34, none, (I 34)), (36, some 1, fun _ => (I 36 1)), (36, some 2, fun _ => (I 36 2)), (37, none, (I 37)), (52, none, (I 52))]) (K := []) (ls := [some (.ref 0), some (.int a1)]) zmt_103 zco_103 rfl rfl (zid_a (zid_a (zid_a (zid_s (zid_a (zid_a (zid_a (zid_s (zid_s (zid_a (zid_a zid_n))))))))))) zid_n ?_
  delta f_X11_hours at h
  refine g_iload_n (pc' := 1)  hc rfl rfl rfl ?_
  refine g_iconst (pc' := 2) (v := (1 : Int32)) hc rfl zki_1 rfl ?_
  refine g_icmp_lt (pc' := 5) hc rfl rfl (fun hx => ?_) (fun hx => ?_)
  · replace h := zwp_t h hx
    refine g_aload_n (pc' := 27)  hc rfl rfl rfl rfl ?_
    refine z_virt (as := []) (a := 0) (r := []) hc rfl rfl rfl rfl sh_0 rfl zco_137 rfl rfl rfl ?_
    refine ok_X11_refuseAct_0 (zdp hd rfl) (zwp_mono (zwp_bind h) ?_)
    rintro ⟨r2, o1⟩ h
    refine z_po (pc' := 30) (st' := [.int r2]) (v := (some (.int r2))) (L' := [(6, none, o1), (14, none, (I 14)), (17, none, (I 17)), (31, some 0, fun _ => (I 31 0)), (32, none, (I 32)), (33, none, (I 33)), (34, none, (I 34)), (36, some 1, fun _ => (I 36 1)), (36, some 2, fun _ => (I 36 2)), (37, none, (I 37)), (52, none, (I 52))]) (K' := []) zco_137 rfl rfl rfl rfl rfl rfl rfl rfl ?_
    replace h := zws h
    exact g_ireturn hc rfl rfl rfl (fun _ => ⟨rfl, rfl⟩) h
  · replace h := zwp_f h hx
    refine g_iload_n (pc' := 6)  hc rfl rfl rfl ?_
    refine g_bipush (pc' := 8) (v := (20 : Int32)) hc rfl zkb_20 rfl ?_
    refine g_icmp_gt (pc' := 11) hc rfl rfl (fun hx => ?_) (fun hx => ?_)
    · replace h := zwp_t h hx
      refine g_aload_n (pc' := 27)  hc rfl rfl rfl rfl ?_
      refine z_virt (as := []) (a := 0) (r := []) hc rfl rfl rfl rfl sh_0 rfl zco_137 rfl rfl rfl ?_
      refine ok_X11_refuseAct_0 (zdp hd rfl) (zwp_mono (zwp_bind h) ?_)
      rintro ⟨r4, o3⟩ h
      refine z_po (pc' := 30) (st' := [.int r4]) (v := (some (.int r4))) (L' := [(6, none, o3), (14, none, (I 14)), (17, none, (I 17)), (31, some 0, fun _ => (I 31 0)), (32, none, (I 32)), (33, none, (I 33)), (34, none, (I 34)), (36, some 1, fun _ => (I 36 1)), (36, some 2, fun _ => (I 36 2)), (37, none, (I 37)), (52, none, (I 52))]) (K' := []) zco_137 rfl rfl rfl rfl rfl rfl rfl rfl ?_
      replace h := zws h
      exact g_ireturn hc rfl rfl rfl (fun _ => ⟨rfl, rfl⟩) h
    · replace h := zwp_f h hx
      refine g_aload_n (pc' := 12)  hc rfl rfl rfl rfl ?_
      refine z_getR (pc' := 15)  hc rfl rfl rfl sh_0 rfl rfl ?_
      refine z_getI (pc' := 18) (v := (I 31 0)) hc rfl rfl rfl sh_31 rfl rfl rfl ?_
      refine g_iload_n (pc' := 19)  hc rfl rfl rfl ?_
      refine g_iadd (pc' := 20)  hc rfl rfl ?_
      refine g_sipush (pc' := 23) (v := (9999 : Int32)) hc rfl zks_9999 rfl ?_
      refine g_icmp_le (pc' := 26) hc rfl rfl (fun hx => ?_) (fun hx => ?_)
      · replace h := zwp_t h hx
        refine g_aload_n (pc' := 32)  hc rfl rfl rfl rfl ?_
        refine z_getR (pc' := 35)  hc rfl rfl rfl sh_0 rfl rfl ?_
        refine g_aload_n (pc' := 36)  hc rfl rfl rfl rfl ?_
        refine z_getR (pc' := 39)  hc rfl rfl rfl sh_0 rfl rfl ?_
        refine z_virt (as := [.ref 31]) (a := 36) (r := []) hc rfl rfl rfl rfl sh_36 rfl zco_3 rfl rfl rfl ?_
        refine ok_X0_keep_36_31 (zdp hd rfl) (zwp_mono (zwp_bind h) ?_)
        rintro ⟨o5, o6, o7⟩ h
        refine z_po (pc' := 42) (st' := []) (v := none) (L' := [(6, none, (I 6)), (14, none, (I 14)), (17, none, (I 17)), (31, some 0, fun _ => (I 31 0)), (32, none, (I 32)), (33, none, (I 33)), (34, none, (I 34)), (36, some 1, fun _ => o6), (36, some 2, fun _ => o5), (37, none, o7), (52, none, (I 52))]) (K' := []) zco_3 rfl rfl rfl rfl rfl rfl rfl rfl ?_
        refine g_aload_n (pc' := 43)  hc rfl rfl rfl rfl ?_
        refine z_getR (pc' := 46)  hc rfl rfl rfl sh_0 rfl rfl ?_
        refine g_aload_n (pc' := 47)  hc rfl rfl rfl rfl ?_
        refine z_getR (pc' := 50)  hc rfl rfl rfl sh_0 rfl rfl ?_
        refine g_aload_n (pc' := 51)  hc rfl rfl rfl rfl ?_
        refine z_getR (pc' := 54)  hc rfl rfl rfl sh_0 rfl rfl ?_
        refine g_iload_n (pc' := 55)  hc rfl rfl rfl ?_
        refine z_virt (as := [.ref 7, .ref 31, .int a1]) (a := 51) (r := []) hc rfl rfl rfl rfl sh_51 rfl zco_13 rfl rfl rfl ?_
        refine ok_X2_passHours_51_7_31 (zdp hd rfl) (zwp_mono (zwp_bind h) ?_)
        rintro ⟨o8, o9, o10, o11, o12, o13, o14⟩ h
        refine z_po (pc' := 58) (st' := []) (v := none) (L' := [(6, none, (I 6)), (14, none, o8), (17, none, o9), (31, some 0, fun _ => o12), (32, none, o10), (33, none, o13), (34, none, o11), (36, some 1, fun _ => o6), (36, some 2, fun _ => o5), (37, none, o7), (52, none, o14)]) (K' := []) zco_13 rfl rfl rfl rfl rfl rfl rfl rfl ?_
        refine g_aload_n (pc' := 59)  hc rfl rfl rfl rfl ?_
        refine z_getR (pc' := 62)  hc rfl rfl rfl sh_0 rfl rfl ?_
        refine z_getI (pc' := 65) (v := o12) hc rfl rfl rfl sh_31 rfl rfl rfl ?_
        replace h := zws h
        exact g_ireturn hc rfl rfl rfl (fun _ => ⟨rfl, rfl⟩) h
      · replace h := zwp_f h hx
        refine g_aload_n (pc' := 27)  hc rfl rfl rfl rfl ?_
        refine z_virt (as := []) (a := 0) (r := []) hc rfl rfl rfl rfl sh_0 rfl zco_137 rfl rfl rfl ?_
        refine ok_X11_refuseAct_0 (zdp hd rfl) (zwp_mono (zwp_bind h) ?_)
        rintro ⟨r16, o15⟩ h
        refine z_po (pc' := 30) (st' := [.int r16]) (v := (some (.int r16))) (L' := [(6, none, o15), (14, none, (I 14)), (17, none, (I 17)), (31, some 0, fun _ => (I 31 0)), (32, none, (I 32)), (33, none, (I 33)), (34, none, (I 34)), (36, some 1, fun _ => (I 36 1)), (36, some 2, fun _ => (I 36 2)), (37, none, (I 37)), (52, none, (I 52))]) (K' := []) zco_137 rfl rfl rfl rfl rfl rfl rfl rfl ?_
        replace h := zws h
        exact g_ireturn hc rfl rfl rfl (fun _ => ⟨rfl, rfl⟩) h
set_option maxRecDepth 4000 in
theorem ok_X8_loadFrom_31_37 {p q : Nat} {I : pI} {J : pJ} {a2 : Int32} {Q : pQ} {d : Nat} (hd : 3 ≤ d) (h : zwp (f_X8_loadFrom a2 1120 (I 37) (I 32) (I 34) (I 31 0) (I 31 1) (I 33) (J 31 2)) (fun w => match w with | (o0, o1, o2, o3, o4, o5) => Q (.inl none) (zS p q I [(31, some 0, fun _ => o2), (31, some 1, fun _ => o3), (32, none, o0), (33, none, o4), (34, none, o1)] J [(31, some 2, fun _ => o5)]))) : pm_call M cost zext d 70 [.ref 31, .ref 37, .int a2] (pm_st 108 (shp p q) I J) Q := by
  obtain ⟨d, rfl⟩ := zd1 hd rfl
  have hc := pm_call_m (M := M) (cost := cost) zext_m d
  refine z_in (L := [(31, some 0, fun _ => (I 31 0)), (31, some 1, fun _ => (I 31 1)), (32, none, (I 32)), (33, none, (I 33)), (34, none, (I 34))]) (K := [(31, some 2, fun _ => (J 31 2))]) (ls := [some (.ref 31), some (.ref 37), some (.int a2)]) zmt_70 zco_70 rfl rfl (zid_s (zid_s (zid_a (zid_a (zid_a zid_n))))) (zid_s zid_n) ?_
  delta f_X8_loadFrom at h
  refine g_iload_n (pc' := 1)  hc rfl rfl rfl ?_
  refine g_if_lt (pc' := 4) hc rfl rfl (fun hx => ?_) (fun hx => ?_)
  · replace h := zwp_t h hx
    replace h := zws h
    exact g_return hc rfl rfl (fun _ => ⟨rfl, rfl⟩) h
  · replace h := zwp_f h hx
    refine g_iload_n (pc' := 5)  hc rfl rfl rfl ?_
    refine g_bipush (pc' := 7) (v := (28 : Int32)) hc rfl zkb_28 rfl ?_
    refine g_iadd (pc' := 8)  hc rfl rfl ?_
    refine g_aload_n (pc' := 9)  hc rfl rfl rfl rfl ?_
    refine z_alen (pc' := 10) (v := (Int32.ofNat 1120)) hc rfl rfl sh_37 ⟨by decide, by decide⟩ rfl rfl ?_
    refine g_icmp_le (pc' := 13) hc rfl rfl (fun hx => ?_) (fun hx => ?_)
    · replace h := zwp_t h hx
      refine g_aload_n (pc' := 15)  hc rfl rfl rfl rfl ?_
      refine g_aload_n (pc' := 16)  hc rfl rfl rfl rfl ?_
      refine g_iload_n (pc' := 17)  hc rfl rfl rfl ?_
      have hb := (zwp_bnd h).1
      replace h := (zwp_bnd h).2
      refine z_iaload (pc' := 18) (v := (((I 37)) a2.toNatClampNeg)) hc rfl rfl sh_37 hb rfl rfl ?_
      refine z_putI (pc' := 21) (L' := [(31, some 0, fun _ => (((I 37)) a2.toNatClampNeg)), (31, some 1, fun _ => (I 31 1)), (32, none, (I 32)), (33, none, (I 33)), (34, none, (I 34))]) hc rfl rfl rfl sh_31 rfl zft_8_0 rfl (fun h => Bool.noConfusion h) rfl rfl rfl ?_
      refine g_aload_n (pc' := 22)  hc rfl rfl rfl rfl ?_
      refine g_aload_n (pc' := 23)  hc rfl rfl rfl rfl ?_
      refine g_iload_n (pc' := 24)  hc rfl rfl rfl ?_
      refine g_iconst (pc' := 25) (v := (1 : Int32)) hc rfl zki_1 rfl ?_
      refine g_iadd (pc' := 26)  hc rfl rfl ?_
      have hb := (zwp_bnd h).1
      replace h := (zwp_bnd h).2
      refine z_iaload (pc' := 27) (v := (((I 37)) (a2 + (1 : Int32)).toNatClampNeg)) hc rfl rfl sh_37 hb rfl rfl ?_
      refine z_putI (pc' := 30) (L' := [(31, some 0, fun _ => (((I 37)) a2.toNatClampNeg)), (31, some 1, fun _ => (((I 37)) (a2 + (1 : Int32)).toNatClampNeg)), (32, none, (I 32)), (33, none, (I 33)), (34, none, (I 34))]) hc rfl rfl rfl sh_31 rfl zft_8_1 rfl (fun h => Bool.noConfusion h) rfl rfl rfl ?_
      refine g_aload_n (pc' := 31)  hc rfl rfl rfl rfl ?_
      refine g_aload_n (pc' := 32)  hc rfl rfl rfl rfl ?_
      refine g_iload_n (pc' := 33)  hc rfl rfl rfl ?_
      refine g_iconst (pc' := 34) (v := (3 : Int32)) hc rfl zki_3 rfl ?_
      refine g_iadd (pc' := 35)  hc rfl rfl ?_
      have hb := (zwp_bnd h).1
      replace h := (zwp_bnd h).2
      refine z_iaload (pc' := 36) (v := (((I 37)) (a2 + (3 : Int32)).toNatClampNeg)) hc rfl rfl sh_37 hb rfl rfl ?_
      refine g_i2l (pc' := 37)  hc rfl rfl ?_
      refine g_bipush (pc' := 39) (v := (32 : Int32)) hc rfl zkb_32 rfl ?_
      refine g_lshl (pc' := 40)  hc rfl rfl ?_
      refine g_aload_n (pc' := 41)  hc rfl rfl rfl rfl ?_
      refine g_iload_n (pc' := 42)  hc rfl rfl rfl ?_
      refine g_iconst (pc' := 43) (v := (2 : Int32)) hc rfl zki_2 rfl ?_
      refine g_iadd (pc' := 44)  hc rfl rfl ?_
      have hb := (zwp_bnd h).1
      replace h := (zwp_bnd h).2
      refine z_iaload (pc' := 45) (v := (((I 37)) (a2 + (2 : Int32)).toNatClampNeg)) hc rfl rfl sh_37 hb rfl rfl ?_
      refine g_i2l (pc' := 46)  hc rfl rfl ?_
      refine g_ldc2_w (pc' := 49) (v := (4294967295 : Int64)) hc rfl rfl rfl ?_
      refine g_land (pc' := 50)  hc rfl rfl ?_
      refine g_lor (pc' := 51)  hc rfl rfl ?_
      refine z_putJ (pc' := 54) (K' := [(31, some 2, fun _ => ((((((I 37)) (a2 + (3 : Int32)).toNatClampNeg).toInt64) <<< ((32 : Int32).toInt64 &&& 63)) ||| (((((I 37)) (a2 + (2 : Int32)).toNatClampNeg).toInt64) &&& (4294967295 : Int64))))]) hc rfl rfl rfl sh_31 rfl zft_8_2 (fun h => Bool.noConfusion h) rfl rfl rfl ?_
      refine g_aload_n (pc' := 55)  hc rfl rfl rfl rfl ?_
      refine g_iload_n (pc' := 56)  hc rfl rfl rfl ?_
      refine g_iconst (pc' := 57) (v := (4 : Int32)) hc rfl zki_4 rfl ?_
      refine g_iadd (pc' := 58)  hc rfl rfl ?_
      refine g_aload_n (pc' := 59)  hc rfl rfl rfl rfl ?_
      refine z_getR (pc' := 62)  hc rfl rfl rfl sh_31 rfl rfl ?_
      refine g_iconst (pc' := 63) (v := (0 : Int32)) hc rfl zki_0 rfl ?_
      refine g_bipush (pc' := 65) (v := (8 : Int32)) hc rfl zkb_8 rfl ?_
      have hb := (zwp_cpg h).1
      replace h := (zwp_cpg h).2
      refine z_acpy (pc' := 68) (f := (I 37)) (g := (I 32)) (L' := [(31, some 0, fun _ => (((I 37)) a2.toNatClampNeg)), (31, some 1, fun _ => (((I 37)) (a2 + (1 : Int32)).toNatClampNeg)), (32, none, (va_cpy ((I 37)) ((I 32)) (a2 + (4 : Int32)).toNatClampNeg 0 8)), (33, none, (I 33)), (34, none, (I 34))]) hc rfl rfl (zdq hd rfl) rfl sh_37 rfl sh_32 hb rfl rfl rfl rfl rfl rfl ?_
      refine g_aload_n (pc' := 69)  hc rfl rfl rfl rfl ?_
      refine g_iload_n (pc' := 70)  hc rfl rfl rfl ?_
      refine g_iconst (pc' := 71) (v := (4 : Int32)) hc rfl zki_4 rfl ?_
      refine g_iadd (pc' := 72)  hc rfl rfl ?_
      refine g_bipush (pc' := 74) (v := (8 : Int32)) hc rfl zkb_8 rfl ?_
      refine g_iadd (pc' := 75)  hc rfl rfl ?_
      refine g_aload_n (pc' := 76)  hc rfl rfl rfl rfl ?_
      refine z_getR (pc' := 79)  hc rfl rfl rfl sh_31 rfl rfl ?_
      refine g_iconst (pc' := 80) (v := (0 : Int32)) hc rfl zki_0 rfl ?_
      refine g_bipush (pc' := 82) (v := (8 : Int32)) hc rfl zkb_8 rfl ?_
      have hb := (zwp_cpg h).1
      replace h := (zwp_cpg h).2
      refine z_acpy (pc' := 85) (f := (I 37)) (g := (I 33)) (L' := [(31, some 0, fun _ => (((I 37)) a2.toNatClampNeg)), (31, some 1, fun _ => (((I 37)) (a2 + (1 : Int32)).toNatClampNeg)), (32, none, (va_cpy ((I 37)) ((I 32)) (a2 + (4 : Int32)).toNatClampNeg 0 8)), (33, none, (va_cpy ((I 37)) ((I 33)) ((a2 + (4 : Int32)) + (8 : Int32)).toNatClampNeg 0 8)), (34, none, (I 34))]) hc rfl rfl (zdq hd rfl) rfl sh_37 rfl sh_33 hb rfl rfl rfl rfl rfl rfl ?_
      refine g_aload_n (pc' := 86)  hc rfl rfl rfl rfl ?_
      refine g_iload_n (pc' := 87)  hc rfl rfl rfl ?_
      refine g_iconst (pc' := 88) (v := (4 : Int32)) hc rfl zki_4 rfl ?_
      refine g_iadd (pc' := 89)  hc rfl rfl ?_
      refine g_bipush (pc' := 91) (v := (16 : Int32)) hc rfl zkb_16 rfl ?_
      refine g_iadd (pc' := 92)  hc rfl rfl ?_
      refine g_aload_n (pc' := 93)  hc rfl rfl rfl rfl ?_
      refine z_getR (pc' := 96)  hc rfl rfl rfl sh_31 rfl rfl ?_
      refine g_iconst (pc' := 97) (v := (0 : Int32)) hc rfl zki_0 rfl ?_
      refine g_bipush (pc' := 99) (v := (8 : Int32)) hc rfl zkb_8 rfl ?_
      have hb := (zwp_cpg h).1
      replace h := (zwp_cpg h).2
      refine z_acpy (pc' := 102) (f := (I 37)) (g := (I 34)) (L' := [(31, some 0, fun _ => (((I 37)) a2.toNatClampNeg)), (31, some 1, fun _ => (((I 37)) (a2 + (1 : Int32)).toNatClampNeg)), (32, none, (va_cpy ((I 37)) ((I 32)) (a2 + (4 : Int32)).toNatClampNeg 0 8)), (33, none, (va_cpy ((I 37)) ((I 33)) ((a2 + (4 : Int32)) + (8 : Int32)).toNatClampNeg 0 8)), (34, none, (va_cpy ((I 37)) ((I 34)) ((a2 + (4 : Int32)) + (16 : Int32)).toNatClampNeg 0 8))]) hc rfl rfl (zdq hd rfl) rfl sh_37 rfl sh_34 hb rfl rfl rfl rfl rfl rfl ?_
      replace h := zws h
      exact g_return hc rfl rfl (fun _ => ⟨rfl, rfl⟩) h
    · replace h := zwp_f h hx
      replace h := zws h
      exact g_return hc rfl rfl (fun _ => ⟨rfl, rfl⟩) h
set_option maxRecDepth 4000 in
theorem ok_X0_takeBack_36_31 {p q : Nat} {I : pI} {J : pJ} {Q : pQ} {d : Nat} (hd : 4 ≤ d) (h : zwp (f_X0_takeBack (I 36 2) (I 36 1) (I 37) (I 32) (I 34) (I 31 0) (I 31 1) (I 33) (J 31 2)) (fun w => match w with | (o0, o1, o2, o3, o4, o5, o6, o7) => Q (.inl none) (zS p q I [(31, some 0, fun _ => o4), (31, some 1, fun _ => o5), (32, none, o2), (33, none, o6), (34, none, o3), (36, some 1, fun _ => o1), (36, some 2, fun _ => o0)] J [(31, some 2, fun _ => o7)]))) : pm_call M cost zext d 4 [.ref 36, .ref 31] (pm_st 108 (shp p q) I J) Q := by
  obtain ⟨d, rfl⟩ := zd1 hd rfl
  have hc := pm_call_m (M := M) (cost := cost) zext_m d
  refine z_in (L := [(31, some 0, fun _ => (I 31 0)), (31, some 1, fun _ => (I 31 1)), (32, none, (I 32)), (33, none, (I 33)), (34, none, (I 34)), (36, some 1, fun _ => (I 36 1)), (36, some 2, fun _ => (I 36 2))]) (K := [(31, some 2, fun _ => (J 31 2))]) (ls := [some (.ref 36), some (.ref 31)]) zmt_4 zco_4 rfl rfl (zid_s (zid_s (zid_a (zid_a (zid_a (zid_s (zid_s zid_n))))))) (zid_s zid_n) ?_
  delta f_X0_takeBack at h
  refine g_aload_n (pc' := 1)  hc rfl rfl rfl rfl ?_
  refine z_getI (pc' := 4) (v := (I 36 2)) hc rfl rfl rfl sh_36 rfl rfl rfl ?_
  refine g_if_le (pc' := 7) hc rfl rfl (fun hx => ?_) (fun hx => ?_)
  · replace h := zwp_t h hx
    replace h := zws h
    exact g_return hc rfl rfl (fun _ => ⟨rfl, rfl⟩) h
  · replace h := zwp_f h hx
    refine g_aload_n (pc' := 8)  hc rfl rfl rfl rfl ?_
    refine g_aload_n (pc' := 9)  hc rfl rfl rfl rfl ?_
    refine z_getI (pc' := 12) (v := (I 36 1)) hc rfl rfl rfl sh_36 rfl rfl rfl ?_
    refine g_bipush (pc' := 14) (v := (40 : Int32)) hc rfl zkb_40 rfl ?_
    refine g_iadd (pc' := 15)  hc rfl rfl ?_
    refine g_iconst (pc' := 16) (v := (1 : Int32)) hc rfl zki_1 rfl ?_
    refine g_isub (pc' := 17)  hc rfl rfl ?_
    refine g_bipush (pc' := 19) (v := (40 : Int32)) hc rfl zkb_40 rfl ?_
    refine g_irem (pc' := 20)  hc rfl (by decide) rfl ?_
    refine z_putI (pc' := 23) (L' := [(31, some 0, fun _ => (I 31 0)), (31, some 1, fun _ => (I 31 1)), (32, none, (I 32)), (33, none, (I 33)), (34, none, (I 34)), (36, some 1, fun _ => (((((I 36 1)) + (40 : Int32)) - (1 : Int32)) - ((((I 36 1)) + (40 : Int32)) - (1 : Int32)) / (40 : Int32) * (40 : Int32))), (36, some 2, fun _ => (I 36 2))]) hc rfl rfl rfl sh_36 rfl zft_0_1 rfl (fun h => Bool.noConfusion h) rfl rfl rfl ?_
    refine g_aload_n (pc' := 24)  hc rfl rfl rfl rfl ?_
    refine g_dup (pc' := 25)  hc rfl rfl rfl ?_
    refine z_getI (pc' := 28) (v := (I 36 2)) hc rfl rfl rfl sh_36 rfl rfl rfl ?_
    refine g_iconst (pc' := 29) (v := (1 : Int32)) hc rfl zki_1 rfl ?_
    refine g_isub (pc' := 30)  hc rfl rfl ?_
    refine z_putI (pc' := 33) (L' := [(31, some 0, fun _ => (I 31 0)), (31, some 1, fun _ => (I 31 1)), (32, none, (I 32)), (33, none, (I 33)), (34, none, (I 34)), (36, some 1, fun _ => (((((I 36 1)) + (40 : Int32)) - (1 : Int32)) - ((((I 36 1)) + (40 : Int32)) - (1 : Int32)) / (40 : Int32) * (40 : Int32))), (36, some 2, fun _ => (((I 36 2)) - (1 : Int32)))]) hc rfl rfl rfl sh_36 rfl zft_0_2 rfl (fun h => Bool.noConfusion h) rfl rfl rfl ?_
    refine g_aload_n (pc' := 34)  hc rfl rfl rfl rfl ?_
    refine g_aload_n (pc' := 35)  hc rfl rfl rfl rfl ?_
    refine z_getR (pc' := 38)  hc rfl rfl rfl sh_36 rfl rfl ?_
    refine g_aload_n (pc' := 39)  hc rfl rfl rfl rfl ?_
    refine z_getI (pc' := 42) (v := (((((I 36 1)) + (40 : Int32)) - (1 : Int32)) - ((((I 36 1)) + (40 : Int32)) - (1 : Int32)) / (40 : Int32) * (40 : Int32))) hc rfl rfl rfl sh_36 rfl rfl rfl ?_
    refine g_bipush (pc' := 44) (v := (28 : Int32)) hc rfl zkb_28 rfl ?_
    refine g_imul (pc' := 45)  hc rfl rfl ?_
    refine z_virt (as := [.ref 37, .int ((((((I 36 1)) + (40 : Int32)) - (1 : Int32)) - ((((I 36 1)) + (40 : Int32)) - (1 : Int32)) / (40 : Int32) * (40 : Int32)) * (28 : Int32))]) (a := 31) (r := []) hc rfl rfl rfl rfl sh_31 rfl zco_70 rfl rfl rfl ?_
    refine ok_X8_loadFrom_31_37 (zdp hd rfl) (zwp_mono (zwp_bind h) ?_)
    rintro ⟨o1, o2, o3, o4, o5, o6⟩ h
    refine z_po (pc' := 48) (st' := []) (v := none) (L' := [(31, some 0, fun _ => o3), (31, some 1, fun _ => o4), (32, none, o1), (33, none, o5), (34, none, o2), (36, some 1, fun _ => (((((I 36 1)) + (40 : Int32)) - (1 : Int32)) - ((((I 36 1)) + (40 : Int32)) - (1 : Int32)) / (40 : Int32) * (40 : Int32))), (36, some 2, fun _ => (((I 36 2)) - (1 : Int32)))]) (K' := [(31, some 2, fun _ => o6)]) zco_70 rfl rfl rfl rfl rfl rfl rfl rfl ?_
    replace h := zws h
    exact g_return hc rfl rfl (fun _ => ⟨rfl, rfl⟩) h
set_option maxRecDepth 4000 in
theorem ok_X11_undo_0 {p q : Nat} {I : pI} {J : pJ} {Q : pQ} {d : Nat} (hd : 5 ≤ d) (h : zwp (f_X11_undo (I 36 2) (I 36 1) (I 37) (I 32) (I 34) (I 31 0) (I 31 1) (I 33) (J 31 2)) (fun w => match w with | (r, o0, o1, o2, o3, o4, o5, o6, o7) => Q (.inl (some (.int r))) (zS p q I [(31, some 0, fun _ => o4), (31, some 1, fun _ => o5), (32, none, o2), (33, none, o6), (34, none, o3), (36, some 1, fun _ => o1), (36, some 2, fun _ => o0)] J [(31, some 2, fun _ => o7)]))) : pm_call M cost zext d 108 [.ref 0] (pm_st 108 (shp p q) I J) Q := by
  obtain ⟨d, rfl⟩ := zd1 hd rfl
  have hc := pm_call_m (M := M) (cost := cost) zext_m d
  refine z_in (L := [(31, some 0, fun _ => (I 31 0)), (31, some 1, fun _ => (I 31 1)), (32, none, (I 32)), (33, none, (I 33)), (34, none, (I 34)), (36, some 1, fun _ => (I 36 1)), (36, some 2, fun _ => (I 36 2))]) (K := [(31, some 2, fun _ => (J 31 2))]) (ls := [some (.ref 0)]) zmt_108 zco_108 rfl rfl (zid_s (zid_s (zid_a (zid_a (zid_a (zid_s (zid_s zid_n))))))) (zid_s zid_n) ?_
  delta f_X11_undo at h
  refine g_aload_n (pc' := 1)  hc rfl rfl rfl rfl ?_
  refine z_getR (pc' := 4)  hc rfl rfl rfl sh_0 rfl rfl ?_
  refine z_getI (pc' := 7) (v := (I 36 2)) hc rfl rfl rfl sh_36 rfl rfl rfl ?_
  refine g_if_ne (pc' := 10) hc rfl rfl (fun hx => ?_) (fun hx => ?_)
  · replace h := zwp_f h hx
    refine g_aload_n (pc' := 13)  hc rfl rfl rfl rfl ?_
    refine z_getR (pc' := 16)  hc rfl rfl rfl sh_0 rfl rfl ?_
    refine g_aload_n (pc' := 17)  hc rfl rfl rfl rfl ?_
    refine z_getR (pc' := 20)  hc rfl rfl rfl sh_0 rfl rfl ?_
    refine z_virt (as := [.ref 31]) (a := 36) (r := []) hc rfl rfl rfl rfl sh_36 rfl zco_4 rfl rfl rfl ?_
    refine ok_X0_takeBack_36_31 (zdp hd rfl) (zwp_mono (zwp_bind h) ?_)
    rintro ⟨o1, o2, o3, o4, o5, o6, o7, o8⟩ h
    refine z_po (pc' := 23) (st' := []) (v := none) (L' := [(31, some 0, fun _ => o5), (31, some 1, fun _ => o6), (32, none, o3), (33, none, o7), (34, none, o4), (36, some 1, fun _ => o2), (36, some 2, fun _ => o1)]) (K' := [(31, some 2, fun _ => o8)]) zco_4 rfl rfl rfl rfl rfl rfl rfl rfl ?_
    refine g_aload_n (pc' := 24)  hc rfl rfl rfl rfl ?_
    refine z_getR (pc' := 27)  hc rfl rfl rfl sh_0 rfl rfl ?_
    refine z_getI (pc' := 30) (v := o1) hc rfl rfl rfl sh_36 rfl rfl rfl ?_
    replace h := zws h
    exact g_ireturn hc rfl rfl rfl (fun _ => ⟨rfl, rfl⟩) h
  · replace h := zwp_t h hx
    refine g_iconst (pc' := 11) (v := (-1 : Int32)) hc rfl zki_m1 rfl ?_
    replace h := zws h
    exact g_ireturn hc rfl rfl rfl (fun _ => ⟨rfl, rfl⟩) h
set_option maxRecDepth 4000 in
theorem ok_X8_copyFrom_53_31 {p q : Nat} {I : pI} {J : pJ} {Q : pQ} {d : Nat} (hd : 3 ≤ d) (h : zwp (f_X8_copyFrom (I 54) (I 53 3) (I 56) (I 53 0) (I 57) (I 53 1) (I 55) (I 32) (I 31 3) (I 34) (I 31 0) (I 35) (I 31 1) (I 33) (J 31 2) (J 53 2)) (fun w => match w with | (o0, o1, o2, o3, o4, o5, o6, o7) => Q (.inl none) (zS p q I [(53, some 0, fun _ => o3), (53, some 1, fun _ => o5), (53, some 3, fun _ => o1), (54, none, o0), (55, none, o6), (56, none, o2), (57, none, o4)] J [(53, some 2, fun _ => o7)]))) : pm_call M cost zext d 68 [.ref 53, .ref 31] (pm_st 108 (shp p q) I J) Q := by
  obtain ⟨d, rfl⟩ := zd1 hd rfl
  have hc := pm_call_m (M := M) (cost := cost) zext_m d
  refine z_in (L := [(53, some 0, fun _ => (I 53 0)), (53, some 1, fun _ => (I 53 1)), (53, some 3, fun _ => (I 53 3)), (54, none, (I 54)), (55, none, (I 55)), (56, none, (I 56)), (57, none, (I 57))]) (K := [(53, some 2, fun _ => (J 53 2))]) (ls := [some (.ref 53), some (.ref 31)]) zmt_68 zco_68 rfl rfl (zid_s (zid_s (zid_s (zid_a (zid_a (zid_a (zid_a zid_n))))))) (zid_s zid_n) ?_
  delta f_X8_copyFrom at h
  refine g_aload_n (pc' := 1)  hc rfl rfl rfl rfl ?_
  refine g_aload_n (pc' := 2)  hc rfl rfl rfl rfl ?_
  refine z_getI (pc' := 5) (v := (I 31 0)) hc rfl rfl rfl sh_31 rfl rfl rfl ?_
  refine z_putI (pc' := 8) (L' := [(53, some 0, fun _ => (I 31 0)), (53, some 1, fun _ => (I 53 1)), (53, some 3, fun _ => (I 53 3)), (54, none, (I 54)), (55, none, (I 55)), (56, none, (I 56)), (57, none, (I 57))]) hc rfl rfl rfl sh_53 rfl zft_8_0 rfl (fun h => Bool.noConfusion h) rfl rfl rfl ?_
  refine g_aload_n (pc' := 9)  hc rfl rfl rfl rfl ?_
  refine g_aload_n (pc' := 10)  hc rfl rfl rfl rfl ?_
  refine z_getI (pc' := 13) (v := (I 31 1)) hc rfl rfl rfl sh_31 rfl rfl rfl ?_
  refine z_putI (pc' := 16) (L' := [(53, some 0, fun _ => (I 31 0)), (53, some 1, fun _ => (I 31 1)), (53, some 3, fun _ => (I 53 3)), (54, none, (I 54)), (55, none, (I 55)), (56, none, (I 56)), (57, none, (I 57))]) hc rfl rfl rfl sh_53 rfl zft_8_1 rfl (fun h => Bool.noConfusion h) rfl rfl rfl ?_
  refine g_aload_n (pc' := 17)  hc rfl rfl rfl rfl ?_
  refine g_aload_n (pc' := 18)  hc rfl rfl rfl rfl ?_
  refine z_getJ (pc' := 21) (v := (J 31 2)) hc rfl rfl rfl sh_31 rfl rfl rfl ?_
  refine z_putJ (pc' := 24) (K' := [(53, some 2, fun _ => (J 31 2))]) hc rfl rfl rfl sh_53 rfl zft_8_2 (fun h => Bool.noConfusion h) rfl rfl rfl ?_
  refine g_aload_n (pc' := 25)  hc rfl rfl rfl rfl ?_
  refine g_aload_n (pc' := 26)  hc rfl rfl rfl rfl ?_
  refine z_getI (pc' := 29) (v := (I 31 3)) hc rfl rfl rfl sh_31 rfl rfl rfl ?_
  refine z_putI (pc' := 32) (L' := [(53, some 0, fun _ => (I 31 0)), (53, some 1, fun _ => (I 31 1)), (53, some 3, fun _ => (I 31 3)), (54, none, (I 54)), (55, none, (I 55)), (56, none, (I 56)), (57, none, (I 57))]) hc rfl rfl rfl sh_53 rfl zft_8_3 rfl (fun h => Bool.noConfusion h) rfl rfl rfl ?_
  refine g_aload_n (pc' := 33)  hc rfl rfl rfl rfl ?_
  refine z_getR (pc' := 36)  hc rfl rfl rfl sh_31 rfl rfl ?_
  refine g_iconst (pc' := 37) (v := (0 : Int32)) hc rfl zki_0 rfl ?_
  refine g_aload_n (pc' := 38)  hc rfl rfl rfl rfl ?_
  refine z_getR (pc' := 41)  hc rfl rfl rfl sh_53 rfl rfl ?_
  refine g_iconst (pc' := 42) (v := (0 : Int32)) hc rfl zki_0 rfl ?_
  refine g_bipush (pc' := 44) (v := (8 : Int32)) hc rfl zkb_8 rfl ?_
  refine z_acpy (pc' := 47) (f := (I 32)) (g := (I 54)) (L' := [(53, some 0, fun _ => (I 31 0)), (53, some 1, fun _ => (I 31 1)), (53, some 3, fun _ => (I 31 3)), (54, none, (va_cpy ((I 32)) ((I 54)) 0 0 8)), (55, none, (I 55)), (56, none, (I 56)), (57, none, (I 57))]) hc rfl rfl (zdq hd rfl) rfl sh_32 rfl sh_54 (by decide) rfl rfl rfl rfl rfl rfl ?_
  refine g_aload_n (pc' := 48)  hc rfl rfl rfl rfl ?_
  refine z_getR (pc' := 51)  hc rfl rfl rfl sh_31 rfl rfl ?_
  refine g_iconst (pc' := 52) (v := (0 : Int32)) hc rfl zki_0 rfl ?_
  refine g_aload_n (pc' := 53)  hc rfl rfl rfl rfl ?_
  refine z_getR (pc' := 56)  hc rfl rfl rfl sh_53 rfl rfl ?_
  refine g_iconst (pc' := 57) (v := (0 : Int32)) hc rfl zki_0 rfl ?_
  refine g_bipush (pc' := 59) (v := (8 : Int32)) hc rfl zkb_8 rfl ?_
  refine z_acpy (pc' := 62) (f := (I 33)) (g := (I 55)) (L' := [(53, some 0, fun _ => (I 31 0)), (53, some 1, fun _ => (I 31 1)), (53, some 3, fun _ => (I 31 3)), (54, none, (va_cpy ((I 32)) ((I 54)) 0 0 8)), (55, none, (va_cpy ((I 33)) ((I 55)) 0 0 8)), (56, none, (I 56)), (57, none, (I 57))]) hc rfl rfl (zdq hd rfl) rfl sh_33 rfl sh_55 (by decide) rfl rfl rfl rfl rfl rfl ?_
  refine g_aload_n (pc' := 63)  hc rfl rfl rfl rfl ?_
  refine z_getR (pc' := 66)  hc rfl rfl rfl sh_31 rfl rfl ?_
  refine g_iconst (pc' := 67) (v := (0 : Int32)) hc rfl zki_0 rfl ?_
  refine g_aload_n (pc' := 68)  hc rfl rfl rfl rfl ?_
  refine z_getR (pc' := 71)  hc rfl rfl rfl sh_53 rfl rfl ?_
  refine g_iconst (pc' := 72) (v := (0 : Int32)) hc rfl zki_0 rfl ?_
  refine g_bipush (pc' := 74) (v := (8 : Int32)) hc rfl zkb_8 rfl ?_
  refine z_acpy (pc' := 77) (f := (I 34)) (g := (I 56)) (L' := [(53, some 0, fun _ => (I 31 0)), (53, some 1, fun _ => (I 31 1)), (53, some 3, fun _ => (I 31 3)), (54, none, (va_cpy ((I 32)) ((I 54)) 0 0 8)), (55, none, (va_cpy ((I 33)) ((I 55)) 0 0 8)), (56, none, (va_cpy ((I 34)) ((I 56)) 0 0 8)), (57, none, (I 57))]) hc rfl rfl (zdq hd rfl) rfl sh_34 rfl sh_56 (by decide) rfl rfl rfl rfl rfl rfl ?_
  refine g_aload_n (pc' := 78)  hc rfl rfl rfl rfl ?_
  refine z_getR (pc' := 81)  hc rfl rfl rfl sh_31 rfl rfl ?_
  refine g_iconst (pc' := 82) (v := (0 : Int32)) hc rfl zki_0 rfl ?_
  refine g_aload_n (pc' := 83)  hc rfl rfl rfl rfl ?_
  refine z_getR (pc' := 86)  hc rfl rfl rfl sh_53 rfl rfl ?_
  refine g_iconst (pc' := 87) (v := (0 : Int32)) hc rfl zki_0 rfl ?_
  refine g_bipush (pc' := 89) (v := (8 : Int32)) hc rfl zkb_8 rfl ?_
  refine z_acpy (pc' := 92) (f := (I 35)) (g := (I 57)) (L' := [(53, some 0, fun _ => (I 31 0)), (53, some 1, fun _ => (I 31 1)), (53, some 3, fun _ => (I 31 3)), (54, none, (va_cpy ((I 32)) ((I 54)) 0 0 8)), (55, none, (va_cpy ((I 33)) ((I 55)) 0 0 8)), (56, none, (va_cpy ((I 34)) ((I 56)) 0 0 8)), (57, none, (va_cpy ((I 35)) ((I 57)) 0 0 8))]) hc rfl rfl (zdq hd rfl) rfl sh_35 rfl sh_57 (by decide) rfl rfl rfl rfl rfl rfl ?_
  replace h := zws h
  exact g_return hc rfl rfl (fun _ => ⟨rfl, rfl⟩) h
set_option maxRecDepth 4000 in
theorem ok_X8_othersWith_53 {p q : Nat} {I : pI} {J : pJ} {a1 : Int32} {Q : pQ} {d : Nat} (hd : 1 ≤ d) (h : zwp (f_X8_othersWith a1 (I 54) (I 53 3)) (fun r => Q (.inl (some (.int r))) (zS p q I [] J []))) : pm_call M cost zext d 73 [.ref 53, .int a1] (pm_st 108 (shp p q) I J) Q := by
  obtain ⟨d, rfl⟩ := zd1 hd rfl
  have hc := pm_call_m (M := M) (cost := cost) zext_m d
  refine z_in (L := []) (K := []) (ls := [some (.ref 53), some (.int a1), none, none]) zmt_73 zco_73 rfl rfl zid_n zid_n ?_
  delta f_X8_othersWith at h
  refine g_iconst (pc' := 1) (v := (-1 : Int32)) hc rfl zki_m1 rfl ?_
  refine g_istore_n (pc' := 2) (ls1 := [some (.ref 53), some (.int a1), some (.int (-1 : Int32)), none]) hc rfl (zlt rfl) rfl rfl ?_
  refine g_iconst (pc' := 3) (v := (0 : Int32)) hc rfl zki_0 rfl ?_
  refine g_istore_n (pc' := 4) (ls1 := [some (.ref 53), some (.int a1), some (.int (-1 : Int32)), some (.int (0 : Int32))]) hc rfl (zlt rfl) rfl rfl ?_
  refine zjn (G := (fun (y3 : Int32) => ∀ z4 : Option Value, znl z4 = true → pm_ev C_X8_othersWith (d + 1) (pm_call M cost zext d) cost (false, false) 108 0 0 Q 41 [some (.ref 53), some (.int a1), some (.int y3), z4] [] 0 0 (zS p q I [] J []))) (zwp_bind h) ?_ (fun h => ?_)
  · rintro y3 h z4 hz4
    refine g_iload_n (pc' := 42)  hc rfl rfl rfl ?_
    replace h := zws h
    exact g_ireturn hc rfl rfl rfl (fun _ => ⟨rfl, rfl⟩) h
  refine zitr_ev (G := (fun (g : Int32 × Int32) => match g with | (x1, x2) => pm_ev C_X8_othersWith (d + 1) (pm_call M cost zext d) cost (false, false) 108 0 0 Q 4 [some (.ref 53), some (.int a1), some (.int x1), some (.int x2)] [] 0 0 (zS p q I [] J []))) ?_ zFU ((-1 : Int32), (0 : Int32)) h
  rintro ⟨x1, x2⟩ h
  refine g_iload_n (pc' := 5)  hc rfl rfl rfl ?_
  refine g_aload_n (pc' := 6)  hc rfl rfl rfl rfl ?_
  refine z_getI (pc' := 9) (v := (I 53 3)) hc rfl rfl rfl sh_53 rfl rfl rfl ?_
  refine g_icmp_ge (pc' := 12) hc rfl rfl (fun hx => ?_) (fun hx => ?_)
  · replace h := zwp_t h hx
    replace h := zwp_r h
    exact h (some (.int x2)) rfl
  · replace h := zwp_f h hx
    refine g_iload_n (pc' := 13)  hc rfl rfl rfl ?_
    refine g_aload_n (pc' := 14)  hc rfl rfl rfl rfl ?_
    refine z_getR (pc' := 17)  hc rfl rfl rfl sh_53 rfl rfl ?_
    refine g_iload_n (pc' := 18)  hc rfl rfl rfl ?_
    have hb := (zwp_bnd h).1
    replace h := (zwp_bnd h).2
    refine z_iaload (pc' := 19) (v := (((I 54)) x2.toNatClampNeg)) hc rfl rfl sh_54 hb rfl rfl ?_
    refine g_aload_n (pc' := 20)  hc rfl rfl rfl rfl ?_
    refine z_getR (pc' := 23)  hc rfl rfl rfl sh_53 rfl rfl ?_
    refine g_iload_n (pc' := 24)  hc rfl rfl rfl ?_
    have hb := (zwp_bnd h).1
    replace h := (zwp_bnd h).2
    refine z_iaload (pc' := 25) (v := (((I 54)) a1.toNatClampNeg)) hc rfl rfl sh_54 hb rfl rfl ?_
    refine zjn (G := (fun (j5 : Int32) => pm_ev C_X8_othersWith (d + 1) (pm_call M cost zext d) cost (false, false) 108 0 0 Q 33 [some (.ref 53), some (.int a1), some (.int x1), some (.int x2)] [.int j5, .int x1] 0 0 (zS p q I [] J []))) (zwp_bind h) ?_ (fun h => ?_)
    · rintro j5 h
      refine g_iadd (pc' := 34)  hc rfl rfl ?_
      refine g_istore_n (pc' := 35) (ls1 := [some (.ref 53), some (.int a1), some (.int (x1 + j5)), some (.int x2)]) hc rfl (zlt rfl) rfl rfl ?_
      refine g_iinc (pc' := 38) (ls1 := [some (.ref 53), some (.int a1), some (.int (x1 + j5)), some (.int (x2 + (1 : Int32)))]) hc rfl rfl zki_1 (zlt rfl) rfl rfl ?_
      refine g_goto hc rfl ?_
      replace h := zwp_l h
      exact h
    refine g_icmp_ne (pc' := 28) hc rfl rfl (fun hx => ?_) (fun hx => ?_)
    · replace h := zwp_f h hx
      refine g_iconst (pc' := 33) (v := (0 : Int32)) hc rfl zki_0 rfl ?_
      replace h := zws h
      exact h
    · replace h := zwp_t h hx
      refine g_iconst (pc' := 29) (v := (1 : Int32)) hc rfl zki_1 rfl ?_
      refine g_goto hc rfl ?_
      replace h := zws h
      exact h
set_option maxRecDepth 4000 in
theorem ok_X2_setValues_51_7_53 {p q : Nat} {I : pI} {J : pJ} {a3 : Int32} {Q : pQ} {d : Nat} (hd : 2 ≤ d) (h : zwp (f_X2_setValues a3 (I 12) (I 7 9) (I 9) (I 10) (I 54) (I 53 3) (I 56) (I 53 0) (I 57) (I 55) (I 52)) (fun o0 => Q (.inl none) (zS p q I [(52, none, o0)] J []))) : pm_call M cost zext d 18 [.ref 51, .ref 7, .ref 53, .int a3] (pm_st 108 (shp p q) I J) Q := by
  obtain ⟨d, rfl⟩ := zd1 hd rfl
  have hc := pm_call_m (M := M) (cost := cost) zext_m d
  refine z_in (L := [(52, none, (I 52))]) (K := []) (ls := [some (.ref 51), some (.ref 7), some (.ref 53), some (.int a3)]) zmt_18 zco_18 rfl rfl (zid_a zid_n) zid_n ?_
  delta f_X2_setValues at h
  refine g_aload_n (pc' := 1)  hc rfl rfl rfl rfl ?_
  refine z_getR (pc' := 4)  hc rfl rfl rfl sh_51 rfl rfl ?_
  refine g_iconst (pc' := 5) (v := (0 : Int32)) hc rfl zki_0 rfl ?_
  refine g_aload_n (pc' := 6)  hc rfl rfl rfl rfl ?_
  refine z_getR (pc' := 9)  hc rfl rfl rfl sh_53 rfl rfl ?_
  refine g_iload_n (pc' := 10)  hc rfl rfl rfl ?_
  have hb := (zwp_bnd h).1
  replace h := (zwp_bnd h).2
  refine z_iaload (pc' := 11) (v := (((I 55)) a3.toNatClampNeg)) hc rfl rfl sh_55 hb rfl rfl ?_
  refine z_iastore (pc' := 12) (g := (I 52)) (L' := [(52, none, (upd ((I 52)) 0 (((I 55)) a3.toNatClampNeg)))]) hc rfl rfl sh_52 (by decide) rfl rfl rfl rfl ?_
  refine g_aload_n (pc' := 13)  hc rfl rfl rfl rfl ?_
  refine z_getR (pc' := 16)  hc rfl rfl rfl sh_51 rfl rfl ?_
  refine g_iconst (pc' := 17) (v := (1 : Int32)) hc rfl zki_1 rfl ?_
  refine g_aload_n (pc' := 18)  hc rfl rfl rfl rfl ?_
  refine g_aload_n (pc' := 19)  hc rfl rfl rfl rfl ?_
  refine z_getI (pc' := 22) (v := (I 53 0)) hc rfl rfl rfl sh_53 rfl rfl rfl ?_
  refine z_virt (as := [.int (I 53 0)]) (a := 7) (r := [.int (1 : Int32), .ref 52]) hc rfl rfl rfl rfl sh_7 rfl zco_22 rfl rfl rfl ?_
  refine ok_X3_lightOf_7 (zdp hd rfl) (zwp_mono (zwp_bind h) ?_)
  rintro r1 h
  refine z_po (pc' := 25) (st' := [.int r1, .int (1 : Int32), .ref 52]) (v := (some (.int r1))) (L' := [(52, none, (upd ((I 52)) 0 (((I 55)) a3.toNatClampNeg)))]) (K' := []) zco_22 rfl rfl rfl rfl rfl rfl rfl rfl ?_
  refine z_iastore (pc' := 26) (g := (upd ((I 52)) 0 (((I 55)) a3.toNatClampNeg))) (L' := [(52, none, (upd (upd ((I 52)) 0 (((I 55)) a3.toNatClampNeg)) 1 r1))]) hc rfl rfl sh_52 (by decide) rfl rfl rfl rfl ?_
  refine g_aload_n (pc' := 27)  hc rfl rfl rfl rfl ?_
  refine z_getR (pc' := 30)  hc rfl rfl rfl sh_51 rfl rfl ?_
  refine g_iconst (pc' := 31) (v := (2 : Int32)) hc rfl zki_2 rfl ?_
  refine g_aload_n (pc' := 32)  hc rfl rfl rfl rfl ?_
  refine g_iload_n (pc' := 33)  hc rfl rfl rfl ?_
  refine z_virt (as := [.int a3]) (a := 53) (r := [.int (2 : Int32), .ref 52]) hc rfl rfl rfl rfl sh_53 rfl zco_73 rfl rfl rfl ?_
  refine ok_X8_othersWith_53 (zdp hd rfl) (zwp_mono (zwp_bind h) ?_)
  rintro r2 h
  refine z_po (pc' := 36) (st' := [.int r2, .int (2 : Int32), .ref 52]) (v := (some (.int r2))) (L' := [(52, none, (upd (upd ((I 52)) 0 (((I 55)) a3.toNatClampNeg)) 1 r1))]) (K' := []) zco_73 rfl rfl rfl rfl rfl rfl rfl rfl ?_
  refine z_iastore (pc' := 37) (g := (upd (upd ((I 52)) 0 (((I 55)) a3.toNatClampNeg)) 1 r1)) (L' := [(52, none, (upd (upd (upd ((I 52)) 0 (((I 55)) a3.toNatClampNeg)) 1 r1) 2 r2))]) hc rfl rfl sh_52 (by decide) rfl rfl rfl rfl ?_
  refine g_aload_n (pc' := 38)  hc rfl rfl rfl rfl ?_
  refine z_getR (pc' := 41)  hc rfl rfl rfl sh_51 rfl rfl ?_
  refine g_iconst (pc' := 42) (v := (3 : Int32)) hc rfl zki_3 rfl ?_
  refine g_aload_n (pc' := 43)  hc rfl rfl rfl rfl ?_
  refine z_getI (pc' := 46) (v := (I 53 0)) hc rfl rfl rfl sh_53 rfl rfl rfl ?_
  refine z_iastore (pc' := 47) (g := (upd (upd (upd ((I 52)) 0 (((I 55)) a3.toNatClampNeg)) 1 r1) 2 r2)) (L' := [(52, none, (upd (upd (upd (upd ((I 52)) 0 (((I 55)) a3.toNatClampNeg)) 1 r1) 2 r2) 3 ((I 53 0))))]) hc rfl rfl sh_52 (by decide) rfl rfl rfl rfl ?_
  refine g_aload_n (pc' := 48)  hc rfl rfl rfl rfl ?_
  refine z_getR (pc' := 51)  hc rfl rfl rfl sh_51 rfl rfl ?_
  refine g_iconst (pc' := 52) (v := (4 : Int32)) hc rfl zki_4 rfl ?_
  refine g_aload_n (pc' := 53)  hc rfl rfl rfl rfl ?_
  refine g_iload_n (pc' := 54)  hc rfl rfl rfl ?_
  refine g_aload_n (pc' := 55)  hc rfl rfl rfl rfl ?_
  refine z_getI (pc' := 58) (v := (I 53 0)) hc rfl rfl rfl sh_53 rfl rfl rfl ?_
  refine g_aload_n (pc' := 59)  hc rfl rfl rfl rfl ?_
  refine z_getR (pc' := 62)  hc rfl rfl rfl sh_53 rfl rfl ?_
  refine g_iload_n (pc' := 63)  hc rfl rfl rfl ?_
  have hb := (zwp_bnd h).1
  replace h := (zwp_bnd h).2
  refine z_iaload (pc' := 64) (v := (((I 57)) a3.toNatClampNeg)) hc rfl rfl sh_57 hb rfl rfl ?_
  refine g_iadd (pc' := 65)  hc rfl rfl ?_
  refine z_virt (as := [.int a3, .int (((I 53 0)) + (((I 57)) a3.toNatClampNeg))]) (a := 7) (r := [.int (4 : Int32), .ref 52]) hc rfl rfl rfl rfl sh_7 rfl zco_24 rfl rfl rfl ?_
  refine ok_X3_stepOf_7 (zdp hd rfl) (zwp_mono (zwp_bind h) ?_)
  rintro r3 h
  refine z_po (pc' := 68) (st' := [.int r3, .int (4 : Int32), .ref 52]) (v := (some (.int r3))) (L' := [(52, none, (upd (upd (upd (upd ((I 52)) 0 (((I 55)) a3.toNatClampNeg)) 1 r1) 2 r2) 3 ((I 53 0))))]) (K' := []) zco_24 rfl rfl rfl rfl rfl rfl rfl rfl ?_
  refine z_iastore (pc' := 69) (g := (upd (upd (upd (upd ((I 52)) 0 (((I 55)) a3.toNatClampNeg)) 1 r1) 2 r2) 3 ((I 53 0)))) (L' := [(52, none, (upd (upd (upd (upd (upd ((I 52)) 0 (((I 55)) a3.toNatClampNeg)) 1 r1) 2 r2) 3 ((I 53 0))) 4 r3))]) hc rfl rfl sh_52 (by decide) rfl rfl rfl rfl ?_
  refine g_aload_n (pc' := 70)  hc rfl rfl rfl rfl ?_
  refine z_getR (pc' := 73)  hc rfl rfl rfl sh_51 rfl rfl ?_
  refine g_iconst (pc' := 74) (v := (5 : Int32)) hc rfl zki_5 rfl ?_
  refine g_aload_n (pc' := 75)  hc rfl rfl rfl rfl ?_
  refine z_getR (pc' := 78)  hc rfl rfl rfl sh_53 rfl rfl ?_
  refine g_iload_n (pc' := 79)  hc rfl rfl rfl ?_
  have hb := (zwp_bnd h).1
  replace h := (zwp_bnd h).2
  refine z_iaload (pc' := 80) (v := (((I 56)) a3.toNatClampNeg)) hc rfl rfl sh_56 hb rfl rfl ?_
  refine z_iastore (pc' := 81) (g := (upd (upd (upd (upd (upd ((I 52)) 0 (((I 55)) a3.toNatClampNeg)) 1 r1) 2 r2) 3 ((I 53 0))) 4 r3)) (L' := [(52, none, (upd (upd (upd (upd (upd (upd ((I 52)) 0 (((I 55)) a3.toNatClampNeg)) 1 r1) 2 r2) 3 ((I 53 0))) 4 r3) 5 (((I 56)) a3.toNatClampNeg)))]) hc rfl rfl sh_52 (by decide) rfl rfl rfl rfl ?_
  replace h := zws h
  exact g_return hc rfl rfl (fun _ => ⟨rfl, rfl⟩) h
set_option maxRecDepth 4000 in
theorem ok_X2_hurt_51_7_53 {p q : Nat} {I : pI} {J : pJ} {a3 : Int32} {Q : pQ} {d : Nat} (hd : 3 ≤ d) (h : zwp (f_X2_hurt a3 (I 18) (I 16 2) (I 17) (I 12) (I 7 9) (I 9) (I 10) (I 54) (I 53 3) (I 56) (I 53 0) (I 57) (I 55) (I 52)) (fun w => match w with | (o0, o1, o2) => Q (.inl none) (zS p q I [(17, none, o0), (52, none, o2), (55, none, o1)] J []))) : pm_call M cost zext d 15 [.ref 51, .ref 7, .ref 53, .int a3] (pm_st 108 (shp p q) I J) Q := by
  obtain ⟨d, rfl⟩ := zd1 hd rfl
  have hc := pm_call_m (M := M) (cost := cost) zext_m d
  refine z_in (L := [(17, none, (I 17)), (52, none, (I 52)), (55, none, (I 55))]) (K := []) (ls := [some (.ref 51), some (.ref 7), some (.ref 53), some (.int a3), none]) zmt_15 zco_15 rfl rfl (zid_a (zid_a (zid_a zid_n))) zid_n ?_
  delta f_X2_hurt at h
  refine g_iconst (pc' := 1) (v := (1 : Int32)) hc rfl zki_1 rfl ?_
  refine g_istore (pc' := 3) (ls1 := [some (.ref 51), some (.ref 7), some (.ref 53), some (.int a3), some (.int (1 : Int32))]) hc rfl (zlt rfl) rfl rfl ?_
  refine g_aload_n (pc' := 4)  hc rfl rfl rfl rfl ?_
  refine z_getR (pc' := 7)  hc rfl rfl rfl sh_7 rfl rfl ?_
  refine z_virt (as := []) (a := 16) (r := []) hc rfl rfl rfl rfl sh_16 rfl zco_43 rfl rfl rfl ?_
  refine ok_X5_isTold_16 (zdp hd rfl) (zwp_mono (zwp_bind h) ?_)
  rintro r1 h
  refine z_po (pc' := 10) (st' := [.int r1]) (v := (some (.int r1))) (L' := [(17, none, (I 17)), (52, none, (I 52)), (55, none, (I 55))]) (K' := []) zco_43 rfl rfl rfl rfl rfl rfl rfl rfl ?_
  refine zjn (G := (fun (g : Int32 × (Nat → Int32) × (Nat → Int32)) => match g with | (j2, j3, j4) => pm_ev C_X2_hurt (d + 1) (pm_call M cost zext d) cost (false, false) 108 0 0 Q 42 [some (.ref 51), some (.ref 7), some (.ref 53), some (.int a3), some (.int j2)] [] 0 0 (zS p q I [(17, none, j3), (52, none, j4), (55, none, (I 55))] J []))) (zwp_bind h) ?_ (fun h => ?_)
  · rintro ⟨j2, j3, j4⟩ h
    refine g_aload_n (pc' := 43)  hc rfl rfl rfl rfl ?_
    refine z_getR (pc' := 46)  hc rfl rfl rfl sh_53 rfl rfl ?_
    refine g_iload_n (pc' := 47)  hc rfl rfl rfl ?_
    refine g_bipush (pc' := 49) (v := (99 : Int32)) hc rfl zkb_99 rfl ?_
    refine g_aload_n (pc' := 50)  hc rfl rfl rfl rfl ?_
    refine z_getR (pc' := 53)  hc rfl rfl rfl sh_53 rfl rfl ?_
    refine g_iload_n (pc' := 54)  hc rfl rfl rfl ?_
    have hb := (zwp_bnd h).1
    replace h := (zwp_bnd h).2
    refine z_iaload (pc' := 55) (v := (((I 55)) a3.toNatClampNeg)) hc rfl rfl sh_55 hb rfl rfl ?_
    refine g_iload (pc' := 57)  hc rfl rfl rfl ?_
    refine g_iadd (pc' := 58)  hc rfl rfl ?_
    refine z_min (pc' := 61)  hc rfl rfl (zdq hd rfl) rfl rfl ?_
    have hb := (zwp_bnd h).1
    replace h := (zwp_bnd h).2
    refine z_iastore (pc' := 62) (g := (I 55)) (L' := [(17, none, j3), (52, none, j4), (55, none, (upd ((I 55)) a3.toNatClampNeg (if ((((I 55)) a3.toNatClampNeg) + j2) < (99 : Int32) then ((((I 55)) a3.toNatClampNeg) + j2) else (99 : Int32))))]) hc rfl rfl sh_55 hb rfl rfl rfl rfl ?_
    replace h := zws h
    exact g_return hc rfl rfl (fun _ => ⟨rfl, rfl⟩) h
  refine g_if_eq (pc' := 13) hc rfl rfl (fun hx => ?_) (fun hx => ?_)
  · replace h := zwp_t h hx
    replace h := zws h
    exact h
  · replace h := zwp_f h hx
    refine g_aload_n (pc' := 14)  hc rfl rfl rfl rfl ?_
    refine g_aload_n (pc' := 15)  hc rfl rfl rfl rfl ?_
    refine g_aload_n (pc' := 16)  hc rfl rfl rfl rfl ?_
    refine g_iload_n (pc' := 17)  hc rfl rfl rfl ?_
    refine z_virt (as := [.ref 7, .ref 53, .int a3]) (a := 51) (r := []) hc rfl rfl rfl rfl sh_51 rfl zco_18 rfl rfl rfl ?_
    refine ok_X2_setValues_51_7_53 (zdp hd rfl) (zwp_mono (zwp_bind h) ?_)
    rintro o5 h
    refine z_po (pc' := 20) (st' := []) (v := none) (L' := [(17, none, (I 17)), (52, none, o5), (55, none, (I 55))]) (K' := []) zco_18 rfl rfl rfl rfl rfl rfl rfl rfl ?_
    refine g_iconst (pc' := 21) (v := (0 : Int32)) hc rfl zki_0 rfl ?_
    refine g_bipush (pc' := 23) (v := (9 : Int32)) hc rfl zkb_9 rfl ?_
    refine g_aload_n (pc' := 24)  hc rfl rfl rfl rfl ?_
    refine z_getR (pc' := 27)  hc rfl rfl rfl sh_7 rfl rfl ?_
    refine g_aload_n (pc' := 28)  hc rfl rfl rfl rfl ?_
    refine z_getR (pc' := 31)  hc rfl rfl rfl sh_51 rfl rfl ?_
    refine z_virt (as := [.ref 52]) (a := 16) (r := [.int (9 : Int32), .int (0 : Int32)]) hc rfl rfl rfl rfl sh_16 rfl zco_45 rfl rfl rfl ?_
    refine ok_X5_value_16_52 (zdp hd rfl) (zwp_mono (zwp_bind h) ?_)
    rintro ⟨r7, o6⟩ h
    refine z_po (pc' := 34) (st' := [.int r7, .int (9 : Int32), .int (0 : Int32)]) (v := (some (.int r7))) (L' := [(17, none, o6), (52, none, o5), (55, none, (I 55))]) (K' := []) zco_45 rfl rfl rfl rfl rfl rfl rfl rfl ?_
    refine z_min (pc' := 37)  hc rfl rfl (zdq hd rfl) rfl rfl ?_
    refine z_max (pc' := 40)  hc rfl rfl (zdq hd rfl) rfl rfl ?_
    refine g_istore (pc' := 42) (ls1 := [some (.ref 51), some (.ref 7), some (.ref 53), some (.int a3), some (.int (if (0 : Int32) < (if r7 < (9 : Int32) then r7 else (9 : Int32)) then (if r7 < (9 : Int32) then r7 else (9 : Int32)) else (0 : Int32)))]) hc rfl (zlt rfl) rfl rfl ?_
    replace h := zws h
    exact h
set_option maxRecDepth 4000 in
theorem ok_X2_wantsToGo_51_7_53 {p q : Nat} {I : pI} {J : pJ} {a3 : Int32} {Q : pQ} {d : Nat} (hd : 3 ≤ d) (h : zwp (f_X2_wantsToGo a3 (I 15) (I 13 2) (I 14) (I 12) (I 7 9) (I 9) (I 10) (I 54) (I 53 3) (I 56) (I 53 0) (I 57) (I 55) (I 52)) (fun w => match w with | (r, o0, o1) => Q (.inl (some (.int r))) (zS p q I [(14, none, o0), (52, none, o1)] J []))) : pm_call M cost zext d 16 [.ref 51, .ref 7, .ref 53, .int a3] (pm_st 108 (shp p q) I J) Q := by
  obtain ⟨d, rfl⟩ := zd1 hd rfl
  have hc := pm_call_m (M := M) (cost := cost) zext_m d
  refine z_in (L := [(14, none, (I 14)), (52, none, (I 52))]) (K := []) (ls := [some (.ref 51), some (.ref 7), some (.ref 53), some (.int a3)]) zmt_16 zco_16 rfl rfl (zid_a (zid_a zid_n)) zid_n ?_
  delta f_X2_wantsToGo at h
  refine g_aload_n (pc' := 1)  hc rfl rfl rfl rfl ?_
  refine z_getR (pc' := 4)  hc rfl rfl rfl sh_7 rfl rfl ?_
  refine z_virt (as := []) (a := 13) (r := []) hc rfl rfl rfl rfl sh_13 rfl zco_43 rfl rfl rfl ?_
  refine ok_X5_isTold_13 (zdp hd rfl) (zwp_mono (zwp_bind h) ?_)
  rintro r1 h
  refine z_po (pc' := 7) (st' := [.int r1]) (v := (some (.int r1))) (L' := [(14, none, (I 14)), (52, none, (I 52))]) (K' := []) zco_43 rfl rfl rfl rfl rfl rfl rfl rfl ?_
  refine g_if_ne (pc' := 10) hc rfl rfl (fun hx => ?_) (fun hx => ?_)
  · replace h := zwp_f h hx
    refine g_aload_n (pc' := 28)  hc rfl rfl rfl rfl ?_
    refine g_aload_n (pc' := 29)  hc rfl rfl rfl rfl ?_
    refine g_aload_n (pc' := 30)  hc rfl rfl rfl rfl ?_
    refine g_iload_n (pc' := 31)  hc rfl rfl rfl ?_
    refine z_virt (as := [.ref 7, .ref 53, .int a3]) (a := 51) (r := []) hc rfl rfl rfl rfl sh_51 rfl zco_18 rfl rfl rfl ?_
    refine ok_X2_setValues_51_7_53 (zdp hd rfl) (zwp_mono (zwp_bind h) ?_)
    rintro o2 h
    refine z_po (pc' := 34) (st' := []) (v := none) (L' := [(14, none, (I 14)), (52, none, o2)]) (K' := []) zco_18 rfl rfl rfl rfl rfl rfl rfl rfl ?_
    refine g_aload_n (pc' := 35)  hc rfl rfl rfl rfl ?_
    refine z_getR (pc' := 38)  hc rfl rfl rfl sh_7 rfl rfl ?_
    refine g_aload_n (pc' := 39)  hc rfl rfl rfl rfl ?_
    refine z_getR (pc' := 42)  hc rfl rfl rfl sh_51 rfl rfl ?_
    refine z_virt (as := [.ref 52]) (a := 13) (r := []) hc rfl rfl rfl rfl sh_13 rfl zco_45 rfl rfl rfl ?_
    refine ok_X5_value_13_52 (zdp hd rfl) (zwp_mono (zwp_bind h) ?_)
    rintro ⟨r4, o3⟩ h
    refine z_po (pc' := 45) (st' := [.int r4]) (v := (some (.int r4))) (L' := [(14, none, o3), (52, none, o2)]) (K' := []) zco_45 rfl rfl rfl rfl rfl rfl rfl rfl ?_
    refine g_if_le (pc' := 48) hc rfl rfl (fun hx => ?_) (fun hx => ?_)
    · replace h := zwp_t h hx
      refine g_iconst (pc' := 53) (v := (0 : Int32)) hc rfl zki_0 rfl ?_
      replace h := zws h
      exact g_ireturn hc rfl rfl rfl (fun _ => ⟨rfl, rfl⟩) h
    · replace h := zwp_f h hx
      refine g_iconst (pc' := 49) (v := (1 : Int32)) hc rfl zki_1 rfl ?_
      refine g_goto hc rfl ?_
      replace h := zws h
      exact g_ireturn hc rfl rfl rfl (fun _ => ⟨rfl, rfl⟩) h
  · replace h := zwp_t h hx
    refine g_aload_n (pc' := 11)  hc rfl rfl rfl rfl ?_
    refine z_getR (pc' := 14)  hc rfl rfl rfl sh_53 rfl rfl ?_
    refine g_iload_n (pc' := 15)  hc rfl rfl rfl ?_
    have hb := (zwp_bnd h).1
    replace h := (zwp_bnd h).2
    refine z_iaload (pc' := 16) (v := (((I 55)) a3.toNatClampNeg)) hc rfl rfl sh_55 hb rfl rfl ?_
    refine g_bipush (pc' := 18) (v := (10 : Int32)) hc rfl zkb_10 rfl ?_
    refine g_icmp_ge (pc' := 21) hc rfl rfl (fun hx => ?_) (fun hx => ?_)
    · replace h := zwp_t h hx
      refine g_iconst (pc' := 26) (v := (0 : Int32)) hc rfl zki_0 rfl ?_
      replace h := zws h
      exact g_ireturn hc rfl rfl rfl (fun _ => ⟨rfl, rfl⟩) h
    · replace h := zwp_f h hx
      refine g_iconst (pc' := 22) (v := (1 : Int32)) hc rfl zki_1 rfl ?_
      refine g_goto hc rfl ?_
      replace h := zws h
      exact g_ireturn hc rfl rfl rfl (fun _ => ⟨rfl, rfl⟩) h
set_option maxRecDepth 4000 in
theorem ok_X8_isWall_53 {p q : Nat} {I : pI} {J : pJ} {a1 : Int32} {Q : pQ} {d : Nat} (hd : 1 ≤ d) (h : zwp (f_X8_isWall a1 (J 53 2)) (fun r => Q (.inl (some (.int r))) (zS p q I [] J []))) : pm_call M cost zext d 71 [.ref 53, .int a1] (pm_st 108 (shp p q) I J) Q := by
  obtain ⟨d, rfl⟩ := zd1 hd rfl
  have hc := pm_call_m (M := M) (cost := cost) zext_m d
  refine z_in (L := []) (K := []) (ls := [some (.ref 53), some (.int a1)]) zmt_71 zco_71 rfl rfl zid_n zid_n ?_
  delta f_X8_isWall at h
  refine g_aload_n (pc' := 1)  hc rfl rfl rfl rfl ?_
  refine z_getJ (pc' := 4) (v := (J 53 2)) hc rfl rfl rfl sh_53 rfl rfl rfl ?_
  refine g_iload_n (pc' := 5)  hc rfl rfl rfl ?_
  refine g_lushr (pc' := 6)  hc rfl rfl ?_
  refine g_lconst (pc' := 7) (v := (1 : Int64)) hc rfl zkl_1 rfl ?_
  refine g_land (pc' := 8)  hc rfl rfl ?_
  refine g_lconst (pc' := 9) (v := (0 : Int64)) hc rfl zkl_0 rfl ?_
  refine g_lcmp (pc' := 10)  hc rfl rfl ?_
  refine g_if_eq (pc' := 13) hc rfl rfl (fun hx => ?_) (fun hx => ?_)
  · replace h := zwp_t h hx
    refine g_iconst (pc' := 18) (v := (0 : Int32)) hc rfl zki_0 rfl ?_
    replace h := zws h
    exact g_ireturn hc rfl rfl rfl (fun _ => ⟨rfl, rfl⟩) h
  · replace h := zwp_f h hx
    refine g_iconst (pc' := 14) (v := (1 : Int32)) hc rfl zki_1 rfl ?_
    refine g_goto hc rfl ?_
    replace h := zws h
    exact g_ireturn hc rfl rfl rfl (fun _ => ⟨rfl, rfl⟩) h
set_option maxRecDepth 4000 in
theorem ok_X2_go_51_7_53 {p q : Nat} {I : pI} {J : pJ} {a3 : Int32} {Q : pQ} {d : Nat} (hd : 3 ≤ d) (h : zwp (f_X2_go a3 (I 7 1) (I 9) (I 10) (I 7 0) (I 54) (I 53 0) (I 57) (J 53 2)) (fun o0 => Q (.inl none) (zS p q I [(54, none, o0)] J []))) : pm_call M cost zext d 17 [.ref 51, .ref 7, .ref 53, .int a3] (pm_st 108 (shp p q) I J) Q := by
  obtain ⟨d, rfl⟩ := zd1 hd rfl
  have hc := pm_call_m (M := M) (cost := cost) zext_m d
  refine z_in (L := [(54, none, (I 54))]) (K := []) (ls := [some (.ref 51), some (.ref 7), some (.ref 53), some (.int a3), none]) zmt_17 zco_17 rfl rfl (zid_a zid_n) zid_n ?_
  delta f_X2_go at h
  refine g_aload_n (pc' := 1)  hc rfl rfl rfl rfl ?_
  refine g_aload_n (pc' := 2)  hc rfl rfl rfl rfl ?_
  refine z_getR (pc' := 5)  hc rfl rfl rfl sh_53 rfl rfl ?_
  refine g_iload_n (pc' := 6)  hc rfl rfl rfl ?_
  have hb := (zwp_bnd h).1
  replace h := (zwp_bnd h).2
  refine z_iaload (pc' := 7) (v := (((I 54)) a3.toNatClampNeg)) hc rfl rfl sh_54 hb rfl rfl ?_
  refine g_aload_n (pc' := 8)  hc rfl rfl rfl rfl ?_
  refine g_iload_n (pc' := 9)  hc rfl rfl rfl ?_
  refine g_aload_n (pc' := 10)  hc rfl rfl rfl rfl ?_
  refine z_getI (pc' := 13) (v := (I 53 0)) hc rfl rfl rfl sh_53 rfl rfl rfl ?_
  refine g_aload_n (pc' := 14)  hc rfl rfl rfl rfl ?_
  refine z_getR (pc' := 17)  hc rfl rfl rfl sh_53 rfl rfl ?_
  refine g_iload_n (pc' := 18)  hc rfl rfl rfl ?_
  have hb := (zwp_bnd h).1
  replace h := (zwp_bnd h).2
  refine z_iaload (pc' := 19) (v := (((I 57)) a3.toNatClampNeg)) hc rfl rfl sh_57 hb rfl rfl ?_
  refine g_iadd (pc' := 20)  hc rfl rfl ?_
  refine z_virt (as := [.int a3, .int (((I 53 0)) + (((I 57)) a3.toNatClampNeg))]) (a := 7) (r := [.int (((I 54)) a3.toNatClampNeg), .ref 7]) hc rfl rfl rfl rfl sh_7 rfl zco_24 rfl rfl rfl ?_
  refine ok_X3_stepOf_7 (zdp hd rfl) (zwp_mono (zwp_bind h) ?_)
  rintro r1 h
  refine z_po (pc' := 23) (st' := [.int r1, .int (((I 54)) a3.toNatClampNeg), .ref 7]) (v := (some (.int r1))) (L' := [(54, none, (I 54))]) (K' := []) zco_24 rfl rfl rfl rfl rfl rfl rfl rfl ?_
  refine z_virt (as := [.int (((I 54)) a3.toNatClampNeg), .int r1]) (a := 7) (r := []) hc rfl rfl rfl rfl sh_7 rfl zco_28 rfl rfl rfl ?_
  refine ok_X3_beside_7 (zdp hd rfl) (zwp_mono (zwp_bind h) ?_)
  rintro r2 h
  refine z_po (pc' := 26) (st' := [.int r2]) (v := (some (.int r2))) (L' := [(54, none, (I 54))]) (K' := []) zco_28 rfl rfl rfl rfl rfl rfl rfl rfl ?_
  refine g_istore (pc' := 28) (ls1 := [some (.ref 51), some (.ref 7), some (.ref 53), some (.int a3), some (.int r2)]) hc rfl (zlt rfl) rfl rfl ?_
  refine g_iload (pc' := 30)  hc rfl rfl rfl ?_
  refine g_iconst (pc' := 31) (v := (-1 : Int32)) hc rfl zki_m1 rfl ?_
  refine g_icmp_eq (pc' := 34) hc rfl rfl (fun hx => ?_) (fun hx => ?_)
  · replace h := zwp_t h hx
    replace h := zws h
    exact g_return hc rfl rfl (fun _ => ⟨rfl, rfl⟩) h
  · replace h := zwp_f h hx
    refine g_aload_n (pc' := 35)  hc rfl rfl rfl rfl ?_
    refine g_iload (pc' := 37)  hc rfl rfl rfl ?_
    refine z_virt (as := [.int r2]) (a := 53) (r := []) hc rfl rfl rfl rfl sh_53 rfl zco_71 rfl rfl rfl ?_
    refine ok_X8_isWall_53 (zdp hd rfl) (zwp_mono (zwp_bind h) ?_)
    rintro r3 h
    refine z_po (pc' := 40) (st' := [.int r3]) (v := (some (.int r3))) (L' := [(54, none, (I 54))]) (K' := []) zco_71 rfl rfl rfl rfl rfl rfl rfl rfl ?_
    refine g_if_ne (pc' := 43) hc rfl rfl (fun hx => ?_) (fun hx => ?_)
    · replace h := zwp_f h hx
      replace h := zws h
      exact g_return hc rfl rfl (fun _ => ⟨rfl, rfl⟩) h
    · replace h := zwp_t h hx
      refine g_aload_n (pc' := 44)  hc rfl rfl rfl rfl ?_
      refine z_getR (pc' := 47)  hc rfl rfl rfl sh_53 rfl rfl ?_
      refine g_iload_n (pc' := 48)  hc rfl rfl rfl ?_
      refine g_iload (pc' := 50)  hc rfl rfl rfl ?_
      have hb := (zwp_bnd h).1
      replace h := (zwp_bnd h).2
      refine z_iastore (pc' := 51) (g := (I 54)) (L' := [(54, none, (upd ((I 54)) a3.toNatClampNeg r2))]) hc rfl rfl sh_54 hb rfl rfl rfl rfl ?_
      replace h := zws h
      exact g_return hc rfl rfl (fun _ => ⟨rfl, rfl⟩) h
set_option maxRecDepth 4000 in
theorem ok_X2_passHour_51_7_53 {p q : Nat} {I : pI} {J : pJ} {a3 : Int32} {Q : pQ} {d : Nat} (hd : 4 ≤ d) (h : zwp (f_X2_passHour a3 (I 7 3) (I 15) (I 13 2) (I 14) (I 7 1) (I 18) (I 16 2) (I 17) (I 12) (I 7 9) (I 9) (I 10) (I 7 0) (I 54) (I 53 3) (I 56) (I 53 0) (I 57) (I 55) (J 53 2) (I 52)) (fun w => match w with | (o0, o1, o2, o3, o4, o5, o6) => Q (.inl none) (zS p q I [(14, none, o0), (17, none, o1), (52, none, o6), (53, some 0, fun _ => o4), (54, none, o2), (55, none, o5), (56, none, o3)] J []))) : pm_call M cost zext d 14 [.ref 51, .ref 7, .ref 53, .int a3] (pm_st 108 (shp p q) I J) Q := by
  obtain ⟨d, rfl⟩ := zd1 hd rfl
  have hc := pm_call_m (M := M) (cost := cost) zext_m d
  refine z_in (L := [(14, none, (I 14)), (17, none, (I 17)), (52, none, (I 52)), (53, some 0, fun _ => (I 53 0)), (54, none, (I 54)), (55, none, (I 55)), (56, none, (I 56))]) (K := []) (ls := [some (.ref 51), some (.ref 7), some (.ref 53), some (.int a3), none]) zmt_14 zco_14 rfl rfl (zid_a (zid_a (zid_a (zid_s (zid_a (zid_a (zid_a zid_n))))))) zid_n ?_
  delta f_X2_passHour at h
  refine g_iconst (pc' := 1) (v := (0 : Int32)) hc rfl zki_0 rfl ?_
  refine g_istore (pc' := 3) (ls1 := [some (.ref 51), some (.ref 7), some (.ref 53), some (.int a3), some (.int (0 : Int32))]) hc rfl (zlt rfl) rfl rfl ?_
  refine zjn (G := (fun (g : (Nat → Int32) × (Nat → Int32) × (Nat → Int32) × (Nat → Int32) × (Nat → Int32)) => match g with | (y8, y9, y10, y11, y12) => ∀ z7 : Option Value, znl z7 = true → pm_ev C_X2_passHour (d + 1) (pm_call M cost zext d) cost (false, false) 108 0 0 Q 62 [some (.ref 51), some (.ref 7), some (.ref 53), some (.int a3), z7] [] 0 0 (zS p q I [(14, none, y8), (17, none, y9), (52, none, y12), (53, some 0, fun _ => (I 53 0)), (54, none, y10), (55, none, y11), (56, none, (I 56))] J []))) (zwp_bind h) ?_ (fun h => ?_)
  · rintro ⟨y8, y9, y10, y11, y12⟩ h z7 hz7
    refine g_iconst (pc' := 63) (v := (0 : Int32)) hc rfl zki_0 rfl ?_
    refine g_istore (pc' := 65) (ls1 := [some (.ref 51), some (.ref 7), some (.ref 53), some (.int a3), some (.int (0 : Int32))]) hc rfl (zlt rfl) rfl rfl ?_
    refine zjn (G := (fun (y16 : (Nat → Int32)) => ∀ z15 : Option Value, znl z15 = true → pm_ev C_X2_passHour (d + 1) (pm_call M cost zext d) cost (false, false) 108 0 0 Q 100 [some (.ref 51), some (.ref 7), some (.ref 53), some (.int a3), z15] [] 0 0 (zS p q I [(14, none, y8), (17, none, y9), (52, none, y12), (53, some 0, fun _ => (I 53 0)), (54, none, y10), (55, none, y11), (56, none, y16)] J []))) (zwp_bind h) ?_ (fun h => ?_)
    · rintro y16 h z15 hz15
      refine g_aload_n (pc' := 101)  hc rfl rfl rfl rfl ?_
      refine g_dup (pc' := 102)  hc rfl rfl rfl ?_
      refine z_getI (pc' := 105) (v := (I 53 0)) hc rfl rfl rfl sh_53 rfl rfl rfl ?_
      refine g_iconst (pc' := 106) (v := (1 : Int32)) hc rfl zki_1 rfl ?_
      refine g_iadd (pc' := 107)  hc rfl rfl ?_
      refine z_putI (pc' := 110) (L' := [(14, none, y8), (17, none, y9), (52, none, y12), (53, some 0, fun _ => (((I 53 0)) + (1 : Int32))), (54, none, y10), (55, none, y11), (56, none, y16)]) hc rfl rfl rfl sh_53 rfl zft_8_0 rfl (fun h => Bool.noConfusion h) rfl rfl rfl ?_
      replace h := zws h
      exact g_return hc rfl rfl (fun _ => ⟨rfl, rfl⟩) h
    refine zitr_ev (G := (fun (g : Int32 × (Nat → Int32)) => match g with | (x13, x14) => pm_ev C_X2_passHour (d + 1) (pm_call M cost zext d) cost (false, false) 108 0 0 Q 65 [some (.ref 51), some (.ref 7), some (.ref 53), some (.int a3), some (.int x13)] [] 0 0 (zS p q I [(14, none, y8), (17, none, y9), (52, none, y12), (53, some 0, fun _ => (I 53 0)), (54, none, y10), (55, none, y11), (56, none, x14)] J []))) ?_ zFU ((0 : Int32), (I 56)) h
    rintro ⟨x13, x14⟩ h
    refine g_iload (pc' := 67)  hc rfl rfl rfl ?_
    refine g_aload_n (pc' := 68)  hc rfl rfl rfl rfl ?_
    refine z_getI (pc' := 71) (v := (I 7 3)) hc rfl rfl rfl sh_7 rfl rfl rfl ?_
    refine g_icmp_ge (pc' := 74) hc rfl rfl (fun hx => ?_) (fun hx => ?_)
    · replace h := zwp_t h hx
      replace h := zwp_r h
      exact h (some (.int x13)) rfl
    · replace h := zwp_f h hx
      refine g_aload_n (pc' := 75)  hc rfl rfl rfl rfl ?_
      refine z_getR (pc' := 78)  hc rfl rfl rfl sh_53 rfl rfl ?_
      refine g_iload (pc' := 80)  hc rfl rfl rfl ?_
      refine g_iconst (pc' := 81) (v := (0 : Int32)) hc rfl zki_0 rfl ?_
      refine g_aload_n (pc' := 82)  hc rfl rfl rfl rfl ?_
      refine z_getR (pc' := 85)  hc rfl rfl rfl sh_53 rfl rfl ?_
      refine g_iload (pc' := 87)  hc rfl rfl rfl ?_
      have hb := (zwp_bnd h).1
      replace h := (zwp_bnd h).2
      refine z_iaload (pc' := 88) (v := (x14 x13.toNatClampNeg)) hc rfl rfl sh_56 hb rfl rfl ?_
      refine g_iconst (pc' := 89) (v := (1 : Int32)) hc rfl zki_1 rfl ?_
      refine g_isub (pc' := 90)  hc rfl rfl ?_
      refine z_max (pc' := 93)  hc rfl rfl (zdq hd rfl) rfl rfl ?_
      have hb := (zwp_bnd h).1
      replace h := (zwp_bnd h).2
      refine z_iastore (pc' := 94) (g := x14) (L' := [(14, none, y8), (17, none, y9), (52, none, y12), (53, some 0, fun _ => (I 53 0)), (54, none, y10), (55, none, y11), (56, none, (upd x14 x13.toNatClampNeg (if (0 : Int32) < ((x14 x13.toNatClampNeg) - (1 : Int32)) then ((x14 x13.toNatClampNeg) - (1 : Int32)) else (0 : Int32))))]) hc rfl rfl sh_56 hb rfl rfl rfl rfl ?_
      refine g_iinc (pc' := 97) (ls1 := [some (.ref 51), some (.ref 7), some (.ref 53), some (.int a3), some (.int (x13 + (1 : Int32)))]) hc rfl rfl zki_1 (zlt rfl) rfl rfl ?_
      refine g_goto hc rfl ?_
      replace h := zwp_l h
      exact h
  refine zitr_ev (G := (fun (g : Int32 × (Nat → Int32) × (Nat → Int32) × (Nat → Int32) × (Nat → Int32) × (Nat → Int32)) => match g with | (x1, x2, x3, x4, x5, x6) => pm_ev C_X2_passHour (d + 1) (pm_call M cost zext d) cost (false, false) 108 0 0 Q 3 [some (.ref 51), some (.ref 7), some (.ref 53), some (.int a3), some (.int x1)] [] 0 0 (zS p q I [(14, none, x2), (17, none, x3), (52, none, x6), (53, some 0, fun _ => (I 53 0)), (54, none, x4), (55, none, x5), (56, none, (I 56))] J []))) ?_ zFU ((0 : Int32), (I 14), (I 17), (I 54), (I 55), (I 52)) h
  rintro ⟨x1, x2, x3, x4, x5, x6⟩ h
  refine g_iload (pc' := 5)  hc rfl rfl rfl ?_
  refine g_aload_n (pc' := 6)  hc rfl rfl rfl rfl ?_
  refine z_getI (pc' := 9) (v := (I 7 3)) hc rfl rfl rfl sh_7 rfl rfl rfl ?_
  refine g_icmp_ge (pc' := 12) hc rfl rfl (fun hx => ?_) (fun hx => ?_)
  · replace h := zwp_t h hx
    replace h := zwp_r h
    exact h (some (.int x1)) rfl
  · replace h := zwp_f h hx
    refine g_aload_n (pc' := 13)  hc rfl rfl rfl rfl ?_
    refine z_getR (pc' := 16)  hc rfl rfl rfl sh_53 rfl rfl ?_
    refine g_iload (pc' := 18)  hc rfl rfl rfl ?_
    have hb := (zwp_bnd h).1
    replace h := (zwp_bnd h).2
    refine z_iaload (pc' := 19) (v := (((I 56)) x1.toNatClampNeg)) hc rfl rfl sh_56 hb rfl rfl ?_
    refine g_if_le (pc' := 22) hc rfl rfl (fun hx => ?_) (fun hx => ?_)
    · replace h := zwp_t h hx
      refine g_aload_n (pc' := 38)  hc rfl rfl rfl rfl ?_
      refine g_aload_n (pc' := 39)  hc rfl rfl rfl rfl ?_
      refine g_aload_n (pc' := 40)  hc rfl rfl rfl rfl ?_
      refine g_iload (pc' := 42)  hc rfl rfl rfl ?_
      refine z_virt (as := [.ref 7, .ref 53, .int x1]) (a := 51) (r := []) hc rfl rfl rfl rfl sh_51 rfl zco_16 rfl rfl rfl ?_
      refine ok_X2_wantsToGo_51_7_53 (zdp hd rfl) (zwp_mono (zwp_bind h) ?_)
      rintro ⟨r19, o17, o18⟩ h
      refine z_po (pc' := 45) (st' := [.int r19]) (v := (some (.int r19))) (L' := [(14, none, o17), (17, none, x3), (52, none, o18), (53, some 0, fun _ => (I 53 0)), (54, none, x4), (55, none, x5), (56, none, (I 56))]) (K' := []) zco_16 rfl rfl rfl rfl rfl rfl rfl rfl ?_
      refine g_if_eq (pc' := 48) hc rfl rfl (fun hx => ?_) (fun hx => ?_)
      · replace h := zwp_t h hx
        refine g_iinc (pc' := 59) (ls1 := [some (.ref 51), some (.ref 7), some (.ref 53), some (.int a3), some (.int (x1 + (1 : Int32)))]) hc rfl rfl zki_1 (zlt rfl) rfl rfl ?_
        refine g_goto hc rfl ?_
        replace h := zwp_l h
        exact h
      · replace h := zwp_f h hx
        refine g_aload_n (pc' := 49)  hc rfl rfl rfl rfl ?_
        refine g_aload_n (pc' := 50)  hc rfl rfl rfl rfl ?_
        refine g_aload_n (pc' := 51)  hc rfl rfl rfl rfl ?_
        refine g_iload (pc' := 53)  hc rfl rfl rfl ?_
        refine z_virt (as := [.ref 7, .ref 53, .int x1]) (a := 51) (r := []) hc rfl rfl rfl rfl sh_51 rfl zco_17 rfl rfl rfl ?_
        refine ok_X2_go_51_7_53 (zdp hd rfl) (zwp_mono (zwp_bind h) ?_)
        rintro o20 h
        refine z_po (pc' := 56) (st' := []) (v := none) (L' := [(14, none, o17), (17, none, x3), (52, none, o18), (53, some 0, fun _ => (I 53 0)), (54, none, o20), (55, none, x5), (56, none, (I 56))]) (K' := []) zco_17 rfl rfl rfl rfl rfl rfl rfl rfl ?_
        refine g_iinc (pc' := 59) (ls1 := [some (.ref 51), some (.ref 7), some (.ref 53), some (.int a3), some (.int (x1 + (1 : Int32)))]) hc rfl rfl zki_1 (zlt rfl) rfl rfl ?_
        refine g_goto hc rfl ?_
        replace h := zwp_l h
        exact h
    · replace h := zwp_f h hx
      refine g_iload_n (pc' := 23)  hc rfl rfl rfl ?_
      refine g_if_ne (pc' := 26) hc rfl rfl (fun hx => ?_) (fun hx => ?_)
      · replace h := zwp_f h hx
        refine g_aload_n (pc' := 38)  hc rfl rfl rfl rfl ?_
        refine g_aload_n (pc' := 39)  hc rfl rfl rfl rfl ?_
        refine g_aload_n (pc' := 40)  hc rfl rfl rfl rfl ?_
        refine g_iload (pc' := 42)  hc rfl rfl rfl ?_
        refine z_virt (as := [.ref 7, .ref 53, .int x1]) (a := 51) (r := []) hc rfl rfl rfl rfl sh_51 rfl zco_16 rfl rfl rfl ?_
        refine ok_X2_wantsToGo_51_7_53 (zdp hd rfl) (zwp_mono (zwp_bind h) ?_)
        rintro ⟨r23, o21, o22⟩ h
        refine z_po (pc' := 45) (st' := [.int r23]) (v := (some (.int r23))) (L' := [(14, none, o21), (17, none, x3), (52, none, o22), (53, some 0, fun _ => (I 53 0)), (54, none, x4), (55, none, x5), (56, none, (I 56))]) (K' := []) zco_16 rfl rfl rfl rfl rfl rfl rfl rfl ?_
        refine g_if_eq (pc' := 48) hc rfl rfl (fun hx => ?_) (fun hx => ?_)
        · replace h := zwp_t h hx
          refine g_iinc (pc' := 59) (ls1 := [some (.ref 51), some (.ref 7), some (.ref 53), some (.int a3), some (.int (x1 + (1 : Int32)))]) hc rfl rfl zki_1 (zlt rfl) rfl rfl ?_
          refine g_goto hc rfl ?_
          replace h := zwp_l h
          exact h
        · replace h := zwp_f h hx
          refine g_aload_n (pc' := 49)  hc rfl rfl rfl rfl ?_
          refine g_aload_n (pc' := 50)  hc rfl rfl rfl rfl ?_
          refine g_aload_n (pc' := 51)  hc rfl rfl rfl rfl ?_
          refine g_iload (pc' := 53)  hc rfl rfl rfl ?_
          refine z_virt (as := [.ref 7, .ref 53, .int x1]) (a := 51) (r := []) hc rfl rfl rfl rfl sh_51 rfl zco_17 rfl rfl rfl ?_
          refine ok_X2_go_51_7_53 (zdp hd rfl) (zwp_mono (zwp_bind h) ?_)
          rintro o24 h
          refine z_po (pc' := 56) (st' := []) (v := none) (L' := [(14, none, o21), (17, none, x3), (52, none, o22), (53, some 0, fun _ => (I 53 0)), (54, none, o24), (55, none, x5), (56, none, (I 56))]) (K' := []) zco_17 rfl rfl rfl rfl rfl rfl rfl rfl ?_
          refine g_iinc (pc' := 59) (ls1 := [some (.ref 51), some (.ref 7), some (.ref 53), some (.int a3), some (.int (x1 + (1 : Int32)))]) hc rfl rfl zki_1 (zlt rfl) rfl rfl ?_
          refine g_goto hc rfl ?_
          replace h := zwp_l h
          exact h
      · replace h := zwp_t h hx
        refine g_aload_n (pc' := 27)  hc rfl rfl rfl rfl ?_
        refine g_aload_n (pc' := 28)  hc rfl rfl rfl rfl ?_
        refine g_aload_n (pc' := 29)  hc rfl rfl rfl rfl ?_
        refine g_iload (pc' := 31)  hc rfl rfl rfl ?_
        refine z_virt (as := [.ref 7, .ref 53, .int x1]) (a := 51) (r := []) hc rfl rfl rfl rfl sh_51 rfl zco_15 rfl rfl rfl ?_
        refine ok_X2_hurt_51_7_53 (zdp hd rfl) (zwp_mono (zwp_bind h) ?_)
        rintro ⟨o25, o26, o27⟩ h
        refine z_po (pc' := 34) (st' := []) (v := none) (L' := [(14, none, x2), (17, none, o25), (52, none, o27), (53, some 0, fun _ => (I 53 0)), (54, none, x4), (55, none, o26), (56, none, (I 56))]) (K' := []) zco_15 rfl rfl rfl rfl rfl rfl rfl rfl ?_
        refine g_goto hc rfl ?_
        refine g_iinc (pc' := 59) (ls1 := [some (.ref 51), some (.ref 7), some (.ref 53), some (.int a3), some (.int (x1 + (1 : Int32)))]) hc rfl rfl zki_1 (zlt rfl) rfl rfl ?_
        refine g_goto hc rfl ?_
        replace h := zwp_l h
        exact h
set_option maxRecDepth 4000 in
theorem ok_X2_passHours_51_7_53 {p q : Nat} {I : pI} {J : pJ} {a3 : Int32} {Q : pQ} {d : Nat} (hd : 5 ≤ d) (h : zwp (f_X2_passHours a3 (I 7 12) (I 7 3) (I 15) (I 13 2) (I 14) (I 7 1) (I 18) (I 16 2) (I 17) (I 12) (I 7 9) (I 9) (I 10) (I 7 0) (I 54) (I 53 3) (I 56) (I 53 0) (I 57) (I 55) (J 53 2) (I 52)) (fun w => match w with | (o0, o1, o2, o3, o4, o5, o6) => Q (.inl none) (zS p q I [(14, none, o0), (17, none, o1), (52, none, o6), (53, some 0, fun _ => o4), (54, none, o2), (55, none, o5), (56, none, o3)] J []))) : pm_call M cost zext d 13 [.ref 51, .ref 7, .ref 53, .int a3] (pm_st 108 (shp p q) I J) Q := by
  obtain ⟨d, rfl⟩ := zd1 hd rfl
  have hc := pm_call_m (M := M) (cost := cost) zext_m d
  refine z_in (L := [(14, none, (I 14)), (17, none, (I 17)), (52, none, (I 52)), (53, some 0, fun _ => (I 53 0)), (54, none, (I 54)), (55, none, (I 55)), (56, none, (I 56))]) (K := []) (ls := [some (.ref 51), some (.ref 7), some (.ref 53), some (.int a3), none]) zmt_13 zco_13 rfl rfl (zid_a (zid_a (zid_a (zid_s (zid_a (zid_a (zid_a zid_n))))))) zid_n ?_
  delta f_X2_passHours at h
  refine g_iconst (pc' := 1) (v := (0 : Int32)) hc rfl zki_0 rfl ?_
  refine g_istore (pc' := 3) (ls1 := [some (.ref 51), some (.ref 7), some (.ref 53), some (.int a3), some (.int (0 : Int32))]) hc rfl (zlt rfl) rfl rfl ?_
  refine zjn (G := (fun (g : (Nat → Int32) × (Nat → Int32) × (Nat → Int32) × (Nat → Int32) × Int32 × (Nat → Int32) × (Nat → Int32)) => match g with | (y10, y11, y12, y13, y14, y15, y16) => ∀ z9 : Option Value, znl z9 = true → pm_ev C_X2_passHours (d + 1) (pm_call M cost zext d) cost (false, false) 108 0 0 Q 29 [some (.ref 51), some (.ref 7), some (.ref 53), some (.int a3), z9] [] 0 0 (zS p q I [(14, none, y10), (17, none, y11), (52, none, y16), (53, some 0, fun _ => y14), (54, none, y12), (55, none, y15), (56, none, y13)] J []))) (zwp_bind h) ?_ (fun h => ?_)
  · rintro ⟨y10, y11, y12, y13, y14, y15, y16⟩ h z9 hz9
    replace h := zws h
    exact g_return hc rfl rfl (fun _ => ⟨rfl, rfl⟩) h
  refine zitr_ev (G := (fun (g : Int32 × (Nat → Int32) × (Nat → Int32) × (Nat → Int32) × (Nat → Int32) × Int32 × (Nat → Int32) × (Nat → Int32)) => match g with | (x1, x2, x3, x4, x5, x6, x7, x8) => pm_ev C_X2_passHours (d + 1) (pm_call M cost zext d) cost (false, false) 108 0 0 Q 3 [some (.ref 51), some (.ref 7), some (.ref 53), some (.int a3), some (.int x1)] [] 0 0 (zS p q I [(14, none, x2), (17, none, x3), (52, none, x8), (53, some 0, fun _ => x6), (54, none, x4), (55, none, x7), (56, none, x5)] J []))) ?_ zFU ((0 : Int32), (I 14), (I 17), (I 54), (I 56), (I 53 0), (I 55), (I 52)) h
  rintro ⟨x1, x2, x3, x4, x5, x6, x7, x8⟩ h
  refine g_iload (pc' := 5)  hc rfl rfl rfl ?_
  refine g_iload_n (pc' := 6)  hc rfl rfl rfl ?_
  refine g_icmp_ge (pc' := 9) hc rfl rfl (fun hx => ?_) (fun hx => ?_)
  · replace h := zwp_t h hx
    replace h := zwp_r h
    exact h (some (.int x1)) rfl
  · replace h := zwp_f h hx
    refine g_aload_n (pc' := 10)  hc rfl rfl rfl rfl ?_
    refine g_aload_n (pc' := 11)  hc rfl rfl rfl rfl ?_
    refine g_aload_n (pc' := 12)  hc rfl rfl rfl rfl ?_
    refine g_aload_n (pc' := 13)  hc rfl rfl rfl rfl ?_
    refine g_aload_n (pc' := 14)  hc rfl rfl rfl rfl ?_
    refine z_getI (pc' := 17) (v := x6) hc rfl rfl rfl sh_53 rfl rfl rfl ?_
    refine z_virt (as := [.int x6]) (a := 7) (r := [.ref 53, .ref 7, .ref 51]) hc rfl rfl rfl rfl sh_7 rfl zco_23 rfl rfl rfl ?_
    refine ok_X3_isDull_7 (zdp hd rfl) (zwp_mono (zwp_bind h) ?_)
    rintro r17 h
    refine z_po (pc' := 20) (st' := [.int r17, .ref 53, .ref 7, .ref 51]) (v := (some (.int r17))) (L' := [(14, none, x2), (17, none, x3), (52, none, x8), (53, some 0, fun _ => x6), (54, none, x4), (55, none, x7), (56, none, x5)]) (K' := []) zco_23 rfl rfl rfl rfl rfl rfl rfl rfl ?_
    refine z_virt (as := [.ref 7, .ref 53, .int r17]) (a := 51) (r := []) hc rfl rfl rfl rfl sh_51 rfl zco_14 rfl rfl rfl ?_
    refine ok_X2_passHour_51_7_53 (zdp hd rfl) (zwp_mono (zwp_bind h) ?_)
    rintro ⟨o18, o19, o20, o21, o22, o23, o24⟩ h
    refine z_po (pc' := 23) (st' := []) (v := none) (L' := [(14, none, o18), (17, none, o19), (52, none, o24), (53, some 0, fun _ => o22), (54, none, o20), (55, none, o23), (56, none, o21)]) (K' := []) zco_14 rfl rfl rfl rfl rfl rfl rfl rfl ?_
    refine g_iinc (pc' := 26) (ls1 := [some (.ref 51), some (.ref 7), some (.ref 53), some (.int a3), some (.int (x1 + (1 : Int32)))]) hc rfl rfl zki_1 (zlt rfl) rfl rfl ?_
    refine g_goto hc rfl ?_
    replace h := zwp_l h
    exact h
set_option maxRecDepth 4000 in
theorem ok_X11_foresee_0_p {I : pI} {J : pJ} {a1 : Int32} {Q : pQ} {d : Nat} (hd : 6 ≤ d) (h : zwp (f_X11_foresee a1 (I 54) (I 53 3) (I 56) (I 53 0) (I 57) (I 53 1) (I 55) (J 53 2) (I 52) (I 32) (I 31 3) (I 34) (I 31 0) (I 35) (I 31 1) (I 33) (J 31 2) (I 7 12) (I 7 3) (I 15) (I 13 2) (I 14) (I 7 1) (I 18) (I 16 2) (I 17) (I 12) (I 7 9) (I 9) (I 10) (I 7 0)) (fun w => match w with | (o0, o1, o2, o3, o4, o5, o6, o7, o8, o9, o10) => Q (.inl none) (zS 7 19 I [(14, none, o9), (17, none, o10), (52, none, o8), (53, some 0, fun _ => o3), (53, some 1, fun _ => o5), (53, some 3, fun _ => o1), (54, none, o0), (55, none, o6), (56, none, o2), (57, none, o4)] J [(53, some 2, fun _ => o7)]))) : pm_call M cost zext d 139 [.ref 0, .int a1] (pm_st 108 (shp 7 19) I J) Q := by
  obtain ⟨d, rfl⟩ := zd1 hd rfl
  have hc := pm_call_m (M := M) (cost := cost) zext_m d
  refine z_in (L := [(14, none, (I 14)), (17, none, (I 17)), (52, none, (I 52)), (53, some 0, fun _ => (I 53 0)), (53, some 1, fun _ => (I 53 1)), (53, some 3, fun _ => (I 53 3)), (54, none, (I 54)), (55, none, (I 55)), (56, none, (I 56)), (57, none, (I 57))]) (K := [(53, some 2, fun _ => (J 53 2))]) (ls := [some (.ref 0), some (.int a1)]) zmt_139 zco_139 rfl rfl (zid_a (zid_a (zid_a (zid_s (zid_s (zid_s (zid_a (zid_a (zid_a (zid_a zid_n)))))))))) (zid_s zid_n) ?_
  delta f_X11_foresee at h
  refine g_aload_n (pc' := 1)  hc rfl rfl rfl rfl ?_
  refine z_getR (pc' := 4)  hc rfl rfl rfl sh_0 rfl rfl ?_
  refine g_aload_n (pc' := 5)  hc rfl rfl rfl rfl ?_
  refine z_getR (pc' := 8)  hc rfl rfl rfl sh_0 rfl rfl ?_
  refine z_virt (as := [.ref 31]) (a := 53) (r := []) hc rfl rfl rfl rfl sh_53 rfl zco_68 rfl rfl rfl ?_
  refine ok_X8_copyFrom_53_31 (zdp hd rfl) (zwp_mono (zwp_bind h) ?_)
  rintro ⟨o1, o2, o3, o4, o5, o6, o7, o8⟩ h
  refine z_po (pc' := 11) (st' := []) (v := none) (L' := [(14, none, (I 14)), (17, none, (I 17)), (52, none, (I 52)), (53, some 0, fun _ => o4), (53, some 1, fun _ => o6), (53, some 3, fun _ => o2), (54, none, o1), (55, none, o7), (56, none, o3), (57, none, o5)]) (K' := [(53, some 2, fun _ => o8)]) zco_68 rfl rfl rfl rfl rfl rfl rfl rfl ?_
  refine g_aload_n (pc' := 12)  hc rfl rfl rfl rfl ?_
  refine z_getR (pc' := 15)  hc rfl rfl rfl sh_0 rfl rfl ?_
  refine g_aload_n (pc' := 16)  hc rfl rfl rfl rfl ?_
  refine z_getR (pc' := 19)  hc rfl rfl rfl sh_0 rfl rfl ?_
  refine g_aload_n (pc' := 20)  hc rfl rfl rfl rfl ?_
  refine z_getR (pc' := 23)  hc rfl rfl rfl sh_0 rfl rfl ?_
  refine g_iload_n (pc' := 24)  hc rfl rfl rfl ?_
  refine z_virt (as := [.ref 7, .ref 53, .int a1]) (a := 51) (r := []) hc rfl rfl rfl rfl sh_51 rfl zco_13 rfl rfl rfl ?_
  refine ok_X2_passHours_51_7_53 (zdp hd rfl) (zwp_mono (zwp_bind h) ?_)
  rintro ⟨o9, o10, o11, o12, o13, o14, o15⟩ h
  refine z_po (pc' := 27) (st' := []) (v := none) (L' := [(14, none, o9), (17, none, o10), (52, none, o15), (53, some 0, fun _ => o13), (53, some 1, fun _ => o6), (53, some 3, fun _ => o2), (54, none, o11), (55, none, o14), (56, none, o12), (57, none, o5)]) (K' := [(53, some 2, fun _ => o8)]) zco_13 rfl rfl rfl rfl rfl rfl rfl rfl ?_
  replace h := zws h
  exact g_return hc rfl rfl (fun _ => ⟨rfl, rfl⟩) h
set_option maxRecDepth 4000 in
theorem ok_X11_passFuture_0_p {I : pI} {J : pJ} {Q : pQ} {d : Nat} (hd : 5 ≤ d) (h : zwp (f_X11_passFuture (I 54) (I 53 3) (I 56) (I 53 0) (I 57) (I 55) (J 53 2) (I 52) (I 7 12) (I 7 3) (I 15) (I 13 2) (I 14) (I 7 1) (I 18) (I 16 2) (I 17) (I 12) (I 7 9) (I 9) (I 10) (I 7 0)) (fun w => match w with | (o0, o1, o2, o3, o4, o5, o6) => Q (.inl none) (zS 7 19 I [(14, none, o5), (17, none, o6), (52, none, o4), (53, some 0, fun _ => o2), (54, none, o0), (55, none, o3), (56, none, o1)] J []))) : pm_call M cost zext d 140 [.ref 0] (pm_st 108 (shp 7 19) I J) Q := by
  obtain ⟨d, rfl⟩ := zd1 hd rfl
  have hc := pm_call_m (M := M) (cost := cost) zext_m d
  refine z_in (L := [(14, none, (I 14)), (17, none, (I 17)), (52, none, (I 52)), (53, some 0, fun _ => (I 53 0)), (54, none, (I 54)), (55, none, (I 55)), (56, none, (I 56))]) (K := []) (ls := [some (.ref 0)]) zmt_140 zco_140 rfl rfl (zid_a (zid_a (zid_a (zid_s (zid_a (zid_a (zid_a zid_n))))))) zid_n ?_
  delta f_X11_passFuture at h
  refine g_aload_n (pc' := 1)  hc rfl rfl rfl rfl ?_
  refine z_getR (pc' := 4)  hc rfl rfl rfl sh_0 rfl rfl ?_
  refine g_aload_n (pc' := 5)  hc rfl rfl rfl rfl ?_
  refine z_getR (pc' := 8)  hc rfl rfl rfl sh_0 rfl rfl ?_
  refine g_aload_n (pc' := 9)  hc rfl rfl rfl rfl ?_
  refine z_getR (pc' := 12)  hc rfl rfl rfl sh_0 rfl rfl ?_
  refine g_aload_n (pc' := 13)  hc rfl rfl rfl rfl ?_
  refine z_getR (pc' := 16)  hc rfl rfl rfl sh_0 rfl rfl ?_
  refine g_aload_n (pc' := 17)  hc rfl rfl rfl rfl ?_
  refine z_getR (pc' := 20)  hc rfl rfl rfl sh_0 rfl rfl ?_
  refine z_getI (pc' := 23) (v := (I 53 0)) hc rfl rfl rfl sh_53 rfl rfl rfl ?_
  refine z_virt (as := [.int (I 53 0)]) (a := 7) (r := [.ref 53, .ref 7, .ref 51]) hc rfl rfl rfl rfl sh_7 rfl zco_23 rfl rfl rfl ?_
  refine ok_X3_isDull_7 (zdp hd rfl) (zwp_mono (zwp_bind h) ?_)
  rintro r1 h
  refine z_po (pc' := 26) (st' := [.int r1, .ref 53, .ref 7, .ref 51]) (v := (some (.int r1))) (L' := [(14, none, (I 14)), (17, none, (I 17)), (52, none, (I 52)), (53, some 0, fun _ => (I 53 0)), (54, none, (I 54)), (55, none, (I 55)), (56, none, (I 56))]) (K' := []) zco_23 rfl rfl rfl rfl rfl rfl rfl rfl ?_
  refine z_virt (as := [.ref 7, .ref 53, .int r1]) (a := 51) (r := []) hc rfl rfl rfl rfl sh_51 rfl zco_14 rfl rfl rfl ?_
  refine ok_X2_passHour_51_7_53 (zdp hd rfl) (zwp_mono (zwp_bind h) ?_)
  rintro ⟨o2, o3, o4, o5, o6, o7, o8⟩ h
  refine z_po (pc' := 29) (st' := []) (v := none) (L' := [(14, none, o2), (17, none, o3), (52, none, o8), (53, some 0, fun _ => o6), (54, none, o4), (55, none, o7), (56, none, o5)]) (K' := []) zco_14 rfl rfl rfl rfl rfl rfl rfl rfl ?_
  replace h := zws h
  exact g_return hc rfl rfl (fun _ => ⟨rfl, rfl⟩) h
set_option maxRecDepth 4000 in
theorem ok_X8_placedAsBits_53_31 {p q : Nat} {I : pI} {J : pJ} {Q : pQ} {d : Nat} (hd : 1 ≤ d) (h : zwp (f_X8_placedAsBits (I 54) (I 53 3) (I 32)) (fun r => Q (.inl (some (.int r))) (zS p q I [] J []))) : pm_call M cost zext d 75 [.ref 53, .ref 31] (pm_st 108 (shp p q) I J) Q := by
  obtain ⟨d, rfl⟩ := zd1 hd rfl
  have hc := pm_call_m (M := M) (cost := cost) zext_m d
  refine z_in (L := []) (K := []) (ls := [some (.ref 53), some (.ref 31), none, none]) zmt_75 zco_75 rfl rfl zid_n zid_n ?_
  delta f_X8_placedAsBits at h
  refine g_iconst (pc' := 1) (v := (0 : Int32)) hc rfl zki_0 rfl ?_
  refine g_istore_n (pc' := 2) (ls1 := [some (.ref 53), some (.ref 31), some (.int (0 : Int32)), none]) hc rfl (zlt rfl) rfl rfl ?_
  refine g_iconst (pc' := 3) (v := (0 : Int32)) hc rfl zki_0 rfl ?_
  refine g_istore_n (pc' := 4) (ls1 := [some (.ref 53), some (.ref 31), some (.int (0 : Int32)), some (.int (0 : Int32))]) hc rfl (zlt rfl) rfl rfl ?_
  refine zjn (G := (fun (y3 : Int32) => ∀ z4 : Option Value, znl z4 = true → pm_ev C_X8_placedAsBits (d + 1) (pm_call M cost zext d) cost (false, false) 108 0 0 Q 39 [some (.ref 53), some (.ref 31), some (.int y3), z4] [] 0 0 (zS p q I [] J []))) (zwp_bind h) ?_ (fun h => ?_)
  · rintro y3 h z4 hz4
    refine g_iload_n (pc' := 40)  hc rfl rfl rfl ?_
    replace h := zws h
    exact g_ireturn hc rfl rfl rfl (fun _ => ⟨rfl, rfl⟩) h
  refine zitr_ev (G := (fun (g : Int32 × Int32) => match g with | (x1, x2) => pm_ev C_X8_placedAsBits (d + 1) (pm_call M cost zext d) cost (false, false) 108 0 0 Q 4 [some (.ref 53), some (.ref 31), some (.int x1), some (.int x2)] [] 0 0 (zS p q I [] J []))) ?_ zFU ((0 : Int32), (0 : Int32)) h
  rintro ⟨x1, x2⟩ h
  refine g_iload_n (pc' := 5)  hc rfl rfl rfl ?_
  refine g_aload_n (pc' := 6)  hc rfl rfl rfl rfl ?_
  refine z_getI (pc' := 9) (v := (I 53 3)) hc rfl rfl rfl sh_53 rfl rfl rfl ?_
  refine g_icmp_ge (pc' := 12) hc rfl rfl (fun hx => ?_) (fun hx => ?_)
  · replace h := zwp_t h hx
    replace h := zwp_r h
    exact h (some (.int x2)) rfl
  · replace h := zwp_f h hx
    refine g_aload_n (pc' := 13)  hc rfl rfl rfl rfl ?_
    refine z_getR (pc' := 16)  hc rfl rfl rfl sh_53 rfl rfl ?_
    refine g_iload_n (pc' := 17)  hc rfl rfl rfl ?_
    have hb := (zwp_bnd h).1
    replace h := (zwp_bnd h).2
    refine z_iaload (pc' := 18) (v := (((I 54)) x2.toNatClampNeg)) hc rfl rfl sh_54 hb rfl rfl ?_
    refine g_aload_n (pc' := 19)  hc rfl rfl rfl rfl ?_
    refine z_getR (pc' := 22)  hc rfl rfl rfl sh_31 rfl rfl ?_
    refine g_iload_n (pc' := 23)  hc rfl rfl rfl ?_
    have hb := (zwp_bnd h).1
    replace h := (zwp_bnd h).2
    refine z_iaload (pc' := 24) (v := (((I 32)) x2.toNatClampNeg)) hc rfl rfl sh_32 hb rfl rfl ?_
    refine g_icmp_ne (pc' := 27) hc rfl rfl (fun hx => ?_) (fun hx => ?_)
    · replace h := zwp_f h hx
      refine g_iinc (pc' := 36) (ls1 := [some (.ref 53), some (.ref 31), some (.int x1), some (.int (x2 + (1 : Int32)))]) hc rfl rfl zki_1 (zlt rfl) rfl rfl ?_
      refine g_goto hc rfl ?_
      replace h := zwp_l h
      exact h
    · replace h := zwp_t h hx
      refine g_iload_n (pc' := 28)  hc rfl rfl rfl ?_
      refine g_iconst (pc' := 29) (v := (1 : Int32)) hc rfl zki_1 rfl ?_
      refine g_iload_n (pc' := 30)  hc rfl rfl rfl ?_
      refine g_ishl (pc' := 31)  hc rfl rfl ?_
      refine g_ior (pc' := 32)  hc rfl rfl ?_
      refine g_istore_n (pc' := 33) (ls1 := [some (.ref 53), some (.ref 31), some (.int (x1 ||| ((1 : Int32) <<< (x2 &&& 31)))), some (.int x2)]) hc rfl (zlt rfl) rfl rfl ?_
      refine g_iinc (pc' := 36) (ls1 := [some (.ref 53), some (.ref 31), some (.int (x1 ||| ((1 : Int32) <<< (x2 &&& 31)))), some (.int (x2 + (1 : Int32)))]) hc rfl rfl zki_1 (zlt rfl) rfl rfl ?_
      refine g_goto hc rfl ?_
      replace h := zwp_l h
      exact h
set_option maxRecDepth 4000 in
theorem ok_X8_isPlacedAs_53_31 {p q : Nat} {I : pI} {J : pJ} {Q : pQ} {d : Nat} (hd : 2 ≤ d) (h : zwp (f_X8_isPlacedAs (I 54) (I 53 3) (I 32)) (fun r => Q (.inl (some (.int r))) (zS p q I [] J []))) : pm_call M cost zext d 76 [.ref 53, .ref 31] (pm_st 108 (shp p q) I J) Q := by
  obtain ⟨d, rfl⟩ := zd1 hd rfl
  have hc := pm_call_m (M := M) (cost := cost) zext_m d
  refine z_in (L := []) (K := []) (ls := [some (.ref 53), some (.ref 31)]) zmt_76 zco_76 rfl rfl zid_n zid_n ?_
  delta f_X8_isPlacedAs at h
  refine g_aload_n (pc' := 1)  hc rfl rfl rfl rfl ?_
  refine g_aload_n (pc' := 2)  hc rfl rfl rfl rfl ?_
  refine z_virt (as := [.ref 31]) (a := 53) (r := []) hc rfl rfl rfl rfl sh_53 rfl zco_75 rfl rfl rfl ?_
  refine ok_X8_placedAsBits_53_31 (zdp hd rfl) (zwp_mono (zwp_bind h) ?_)
  rintro r1 h
  refine z_po (pc' := 5) (st' := [.int r1]) (v := (some (.int r1))) (L' := []) (K' := []) zco_75 rfl rfl rfl rfl rfl rfl rfl rfl ?_
  refine g_iconst (pc' := 6) (v := (1 : Int32)) hc rfl zki_1 rfl ?_
  refine g_aload_n (pc' := 7)  hc rfl rfl rfl rfl ?_
  refine z_getI (pc' := 10) (v := (I 53 3)) hc rfl rfl rfl sh_53 rfl rfl rfl ?_
  refine g_ishl (pc' := 11)  hc rfl rfl ?_
  refine g_iconst (pc' := 12) (v := (1 : Int32)) hc rfl zki_1 rfl ?_
  refine g_isub (pc' := 13)  hc rfl rfl ?_
  refine g_icmp_ne (pc' := 16) hc rfl rfl (fun hx => ?_) (fun hx => ?_)
  · replace h := zwp_f h hx
    refine g_iconst (pc' := 21) (v := (0 : Int32)) hc rfl zki_0 rfl ?_
    replace h := zws h
    exact g_ireturn hc rfl rfl rfl (fun _ => ⟨rfl, rfl⟩) h
  · replace h := zwp_t h hx
    refine g_iconst (pc' := 17) (v := (1 : Int32)) hc rfl zki_1 rfl ?_
    refine g_goto hc rfl ?_
    replace h := zws h
    exact g_ireturn hc rfl rfl rfl (fun _ => ⟨rfl, rfl⟩) h
set_option maxRecDepth 4000 in
theorem ok_X11_round_0_p {I : pI} {J : pJ} {Q : pQ} {d : Nat} (hd : 7 ≤ d) (h : zwp (f_X11_round (I 54) (I 53 3) (I 56) (I 53 0) (I 57) (I 53 1) (I 55) (J 53 2) (I 52) (I 32) (I 31 3) (I 34) (I 31 0) (I 35) (I 31 1) (I 33) (J 31 2) (I 7 12) (I 7 3) (I 15) (I 13 2) (I 14) (I 7 1) (I 18) (I 16 2) (I 17) (I 12) (I 7 9) (I 9) (I 10) (I 7 0)) (fun w => match w with | (r, o0, o1, o2, o3, o4, o5, o6, o7, o8, o9, o10) => Q (.inl (some (.int r))) (zS 7 19 I [(14, none, o9), (17, none, o10), (52, none, o8), (53, some 0, fun _ => o3), (53, some 1, fun _ => o5), (53, some 3, fun _ => o1), (54, none, o0), (55, none, o6), (56, none, o2), (57, none, o4)] J [(53, some 2, fun _ => o7)]))) : pm_call M cost zext d 113 [.ref 0] (pm_st 108 (shp 7 19) I J) Q := by
  obtain ⟨d, rfl⟩ := zd1 hd rfl
  have hc := pm_call_m (M := M) (cost := cost) zext_m d
  refine z_in (L := [(14, none, (I 14)), (17, none, (I 17)), (52, none, (I 52)), (53, some 0, fun _ => (I 53 0)), (53, some 1, fun _ => (I 53 1)), (53, some 3, fun _ => (I 53 3)), (54, none, (I 54)), (55, none, (I 55)), (56, none, (I 56)), (57, none, (I 57))]) (K := [(53, some 2, fun _ => (J 53 2))]) (ls := [some (.ref 0), none]) zmt_113 zco_113 rfl rfl (zid_a (zid_a (zid_a (zid_s (zid_s (zid_s (zid_a (zid_a (zid_a (zid_a zid_n)))))))))) (zid_s zid_n) ?_
  delta f_X11_round at h
  refine g_aload_n (pc' := 1)  hc rfl rfl rfl rfl ?_
  refine g_iconst (pc' := 2) (v := (0 : Int32)) hc rfl zki_0 rfl ?_
  refine z_virt (as := [.int (0 : Int32)]) (a := 0) (r := []) hc rfl rfl rfl rfl sh_0 rfl zco_139 rfl rfl rfl ?_
  refine ok_X11_foresee_0_p (zdp hd rfl) (zwp_mono (zwp_bind h) ?_)
  rintro ⟨o1, o2, o3, o4, o5, o6, o7, o8, o9, o10, o11⟩ h
  refine z_po (pc' := 5) (st' := []) (v := none) (L' := [(14, none, o10), (17, none, o11), (52, none, o9), (53, some 0, fun _ => o4), (53, some 1, fun _ => o6), (53, some 3, fun _ => o2), (54, none, o1), (55, none, o7), (56, none, o3), (57, none, o5)]) (K' := [(53, some 2, fun _ => o8)]) zco_139 rfl rfl rfl rfl rfl rfl rfl rfl ?_
  refine g_iconst (pc' := 6) (v := (1 : Int32)) hc rfl zki_1 rfl ?_
  refine g_istore_n (pc' := 7) (ls1 := [some (.ref 0), some (.int (1 : Int32))]) hc rfl (zlt rfl) rfl rfl ?_
  refine zjs (G := (fun (g : (Nat → Int32) × (Nat → Int32) × Int32 × (Nat → Int32) × (Nat → Int32) × (Nat → Int32) × (Nat → Int32)) => match g with | (y21, y22, y23, y24, y25, y26, y27) => ∀ z20 : Option Value, znl z20 = true → pm_ev C_X11_round (d + 1) (pm_call M cost zext d) cost (false, false) 108 0 0 Q 40 [some (.ref 0), z20] [] 0 0 (zS 7 19 I [(14, none, y26), (17, none, y27), (52, none, y25), (53, some 0, fun _ => y23), (53, some 1, fun _ => o6), (53, some 3, fun _ => o2), (54, none, y21), (55, none, y24), (56, none, y22), (57, none, o5)] J [(53, some 2, fun _ => o8)]))) h ?_ (fun h => ?_)
  · rintro ⟨y21, y22, y23, y24, y25, y26, y27⟩ h z20 hz20
    refine g_iconst (pc' := 41) (v := (-1 : Int32)) hc rfl zki_m1 rfl ?_
    replace h := zws h
    exact g_ireturn hc rfl rfl rfl (fun _ => ⟨rfl, rfl⟩) h
  refine zitr_ev (G := (fun (g : Int32 × (Nat → Int32) × (Nat → Int32) × Int32 × (Nat → Int32) × (Nat → Int32) × (Nat → Int32) × (Nat → Int32)) => match g with | (x12, x13, x14, x15, x16, x17, x18, x19) => pm_ev C_X11_round (d + 1) (pm_call M cost zext d) cost (false, false) 108 0 0 Q 7 [some (.ref 0), some (.int x12)] [] 0 0 (zS 7 19 I [(14, none, x18), (17, none, x19), (52, none, x17), (53, some 0, fun _ => x15), (53, some 1, fun _ => o6), (53, some 3, fun _ => o2), (54, none, x13), (55, none, x16), (56, none, x14), (57, none, o5)] J [(53, some 2, fun _ => o8)]))) ?_ zFU ((1 : Int32), o1, o3, o4, o7, o9, o10, o11) h
  rintro ⟨x12, x13, x14, x15, x16, x17, x18, x19⟩ h
  refine g_iload_n (pc' := 8)  hc rfl rfl rfl ?_
  refine g_sipush (pc' := 11) (v := (200 : Int32)) hc rfl zks_200 rfl ?_
  refine g_icmp_gt (pc' := 14) hc rfl rfl (fun hx => ?_) (fun hx => ?_)
  · replace h := zwp_t h hx
    replace h := zwp_r h
    exact h (some (.int x12)) rfl
  · replace h := zwp_f h hx
    refine g_aload_n (pc' := 15)  hc rfl rfl rfl rfl ?_
    refine z_virt (as := []) (a := 0) (r := []) hc rfl rfl rfl rfl sh_0 rfl zco_140 rfl rfl rfl ?_
    refine ok_X11_passFuture_0_p (zdp hd rfl) (zwp_mono (zwp_bind h) ?_)
    rintro ⟨o28, o29, o30, o31, o32, o33, o34⟩ h
    refine z_po (pc' := 18) (st' := []) (v := none) (L' := [(14, none, o33), (17, none, o34), (52, none, o32), (53, some 0, fun _ => o30), (53, some 1, fun _ => o6), (53, some 3, fun _ => o2), (54, none, o28), (55, none, o31), (56, none, o29), (57, none, o5)]) (K' := [(53, some 2, fun _ => o8)]) zco_140 rfl rfl rfl rfl rfl rfl rfl rfl ?_
    refine g_aload_n (pc' := 19)  hc rfl rfl rfl rfl ?_
    refine z_getR (pc' := 22)  hc rfl rfl rfl sh_0 rfl rfl ?_
    refine g_aload_n (pc' := 23)  hc rfl rfl rfl rfl ?_
    refine z_getR (pc' := 26)  hc rfl rfl rfl sh_0 rfl rfl ?_
    refine z_virt (as := [.ref 31]) (a := 53) (r := []) hc rfl rfl rfl rfl sh_53 rfl zco_76 rfl rfl rfl ?_
    refine ok_X8_isPlacedAs_53_31 (zdp hd rfl) (zwp_mono (zwp_bind h) ?_)
    rintro r35 h
    refine z_po (pc' := 29) (st' := [.int r35]) (v := (some (.int r35))) (L' := [(14, none, o33), (17, none, o34), (52, none, o32), (53, some 0, fun _ => o30), (53, some 1, fun _ => o6), (53, some 3, fun _ => o2), (54, none, o28), (55, none, o31), (56, none, o29), (57, none, o5)]) (K' := [(53, some 2, fun _ => o8)]) zco_76 rfl rfl rfl rfl rfl rfl rfl rfl ?_
    refine g_if_eq (pc' := 32) hc rfl rfl (fun hx => ?_) (fun hx => ?_)
    · replace h := zwp_t h hx
      refine g_iinc (pc' := 37) (ls1 := [some (.ref 0), some (.int (x12 + (1 : Int32)))]) hc rfl rfl zki_1 (zlt rfl) rfl rfl ?_
      refine g_goto hc rfl ?_
      replace h := zwp_l h
      exact h
    · replace h := zwp_f h hx
      refine g_iload_n (pc' := 33)  hc rfl rfl rfl ?_
      replace h := zws h
      exact g_ireturn hc rfl rfl rfl (fun _ => ⟨rfl, rfl⟩) h
set_option maxRecDepth 4000 in
theorem ok_X0_clearNotes_36 {p q : Nat} {I : pI} {J : pJ} {Q : pQ} {d : Nat} (hd : 1 ≤ d) (h : zwp (f_X0_clearNotes (I 36 3)) (fun o0 => Q (.inl none) (zS p q I [(36, some 3, fun _ => o0)] J []))) : pm_call M cost zext d 2 [.ref 36] (pm_st 108 (shp p q) I J) Q := by
  obtain ⟨d, rfl⟩ := zd1 hd rfl
  have hc := pm_call_m (M := M) (cost := cost) zext_m d
  refine z_in (L := [(36, some 3, fun _ => (I 36 3))]) (K := []) (ls := [some (.ref 36)]) zmt_2 zco_2 rfl rfl (zid_s zid_n) zid_n ?_
  delta f_X0_clearNotes at h
  refine g_aload_n (pc' := 1)  hc rfl rfl rfl rfl ?_
  refine g_iconst (pc' := 2) (v := (0 : Int32)) hc rfl zki_0 rfl ?_
  refine z_putI (pc' := 5) (L' := [(36, some 3, fun _ => (0 : Int32))]) hc rfl rfl rfl sh_36 rfl zft_0_3 rfl (fun h => Bool.noConfusion h) rfl rfl rfl ?_
  replace h := zws h
  exact g_return hc rfl rfl (fun _ => ⟨rfl, rfl⟩) h
set_option maxRecDepth 4000 in
theorem ok_X11_forget_0 {p q : Nat} {I : pI} {J : pJ} {Q : pQ} {d : Nat} (hd : 2 ≤ d) (h : zwp (f_X11_forget (I 36 3)) (fun o0 => Q (.inl none) (zS p q I [(36, some 3, fun _ => o0)] J []))) : pm_call M cost zext d 121 [.ref 0] (pm_st 108 (shp p q) I J) Q := by
  obtain ⟨d, rfl⟩ := zd1 hd rfl
  have hc := pm_call_m (M := M) (cost := cost) zext_m d
  refine z_in (L := [(36, some 3, fun _ => (I 36 3))]) (K := []) (ls := [some (.ref 0)]) zmt_121 zco_121 rfl rfl (zid_s zid_n) zid_n ?_
  delta f_X11_forget at h
  refine g_aload_n (pc' := 1)  hc rfl rfl rfl rfl ?_
  refine z_getR (pc' := 4)  hc rfl rfl rfl sh_0 rfl rfl ?_
  refine z_virt (as := []) (a := 36) (r := []) hc rfl rfl rfl rfl sh_36 rfl zco_2 rfl rfl rfl ?_
  refine ok_X0_clearNotes_36 (zdp hd rfl) (zwp_mono (zwp_bind h) ?_)
  rintro o1 h
  refine z_po (pc' := 7) (st' := []) (v := none) (L' := [(36, some 3, fun _ => o1)]) (K' := []) zco_2 rfl rfl rfl rfl rfl rfl rfl rfl ?_
  replace h := zws h
  exact g_return hc rfl rfl (fun _ => ⟨rfl, rfl⟩) h
set_option maxRecDepth 4000 in
theorem ok_X8_copyFrom_41_31 {p q : Nat} {I : pI} {J : pJ} {Q : pQ} {d : Nat} (hd : 3 ≤ d) (h : zwp (f_X8_copyFrom (I 42) (I 41 3) (I 44) (I 41 0) (I 45) (I 41 1) (I 43) (I 32) (I 31 3) (I 34) (I 31 0) (I 35) (I 31 1) (I 33) (J 31 2) (J 41 2)) (fun w => match w with | (o0, o1, o2, o3, o4, o5, o6, o7) => Q (.inl none) (zS p q I [(41, some 0, fun _ => o3), (41, some 1, fun _ => o5), (41, some 3, fun _ => o1), (42, none, o0), (43, none, o6), (44, none, o2), (45, none, o4)] J [(41, some 2, fun _ => o7)]))) : pm_call M cost zext d 68 [.ref 41, .ref 31] (pm_st 108 (shp p q) I J) Q := by
  obtain ⟨d, rfl⟩ := zd1 hd rfl
  have hc := pm_call_m (M := M) (cost := cost) zext_m d
  refine z_in (L := [(41, some 0, fun _ => (I 41 0)), (41, some 1, fun _ => (I 41 1)), (41, some 3, fun _ => (I 41 3)), (42, none, (I 42)), (43, none, (I 43)), (44, none, (I 44)), (45, none, (I 45))]) (K := [(41, some 2, fun _ => (J 41 2))]) (ls := [some (.ref 41), some (.ref 31)]) zmt_68 zco_68 rfl rfl (zid_s (zid_s (zid_s (zid_a (zid_a (zid_a (zid_a zid_n))))))) (zid_s zid_n) ?_
  delta f_X8_copyFrom at h
  refine g_aload_n (pc' := 1)  hc rfl rfl rfl rfl ?_
  refine g_aload_n (pc' := 2)  hc rfl rfl rfl rfl ?_
  refine z_getI (pc' := 5) (v := (I 31 0)) hc rfl rfl rfl sh_31 rfl rfl rfl ?_
  refine z_putI (pc' := 8) (L' := [(41, some 0, fun _ => (I 31 0)), (41, some 1, fun _ => (I 41 1)), (41, some 3, fun _ => (I 41 3)), (42, none, (I 42)), (43, none, (I 43)), (44, none, (I 44)), (45, none, (I 45))]) hc rfl rfl rfl sh_41 rfl zft_8_0 rfl (fun h => Bool.noConfusion h) rfl rfl rfl ?_
  refine g_aload_n (pc' := 9)  hc rfl rfl rfl rfl ?_
  refine g_aload_n (pc' := 10)  hc rfl rfl rfl rfl ?_
  refine z_getI (pc' := 13) (v := (I 31 1)) hc rfl rfl rfl sh_31 rfl rfl rfl ?_
  refine z_putI (pc' := 16) (L' := [(41, some 0, fun _ => (I 31 0)), (41, some 1, fun _ => (I 31 1)), (41, some 3, fun _ => (I 41 3)), (42, none, (I 42)), (43, none, (I 43)), (44, none, (I 44)), (45, none, (I 45))]) hc rfl rfl rfl sh_41 rfl zft_8_1 rfl (fun h => Bool.noConfusion h) rfl rfl rfl ?_
  refine g_aload_n (pc' := 17)  hc rfl rfl rfl rfl ?_
  refine g_aload_n (pc' := 18)  hc rfl rfl rfl rfl ?_
  refine z_getJ (pc' := 21) (v := (J 31 2)) hc rfl rfl rfl sh_31 rfl rfl rfl ?_
  refine z_putJ (pc' := 24) (K' := [(41, some 2, fun _ => (J 31 2))]) hc rfl rfl rfl sh_41 rfl zft_8_2 (fun h => Bool.noConfusion h) rfl rfl rfl ?_
  refine g_aload_n (pc' := 25)  hc rfl rfl rfl rfl ?_
  refine g_aload_n (pc' := 26)  hc rfl rfl rfl rfl ?_
  refine z_getI (pc' := 29) (v := (I 31 3)) hc rfl rfl rfl sh_31 rfl rfl rfl ?_
  refine z_putI (pc' := 32) (L' := [(41, some 0, fun _ => (I 31 0)), (41, some 1, fun _ => (I 31 1)), (41, some 3, fun _ => (I 31 3)), (42, none, (I 42)), (43, none, (I 43)), (44, none, (I 44)), (45, none, (I 45))]) hc rfl rfl rfl sh_41 rfl zft_8_3 rfl (fun h => Bool.noConfusion h) rfl rfl rfl ?_
  refine g_aload_n (pc' := 33)  hc rfl rfl rfl rfl ?_
  refine z_getR (pc' := 36)  hc rfl rfl rfl sh_31 rfl rfl ?_
  refine g_iconst (pc' := 37) (v := (0 : Int32)) hc rfl zki_0 rfl ?_
  refine g_aload_n (pc' := 38)  hc rfl rfl rfl rfl ?_
  refine z_getR (pc' := 41)  hc rfl rfl rfl sh_41 rfl rfl ?_
  refine g_iconst (pc' := 42) (v := (0 : Int32)) hc rfl zki_0 rfl ?_
  refine g_bipush (pc' := 44) (v := (8 : Int32)) hc rfl zkb_8 rfl ?_
  refine z_acpy (pc' := 47) (f := (I 32)) (g := (I 42)) (L' := [(41, some 0, fun _ => (I 31 0)), (41, some 1, fun _ => (I 31 1)), (41, some 3, fun _ => (I 31 3)), (42, none, (va_cpy ((I 32)) ((I 42)) 0 0 8)), (43, none, (I 43)), (44, none, (I 44)), (45, none, (I 45))]) hc rfl rfl (zdq hd rfl) rfl sh_32 rfl sh_42 (by decide) rfl rfl rfl rfl rfl rfl ?_
  refine g_aload_n (pc' := 48)  hc rfl rfl rfl rfl ?_
  refine z_getR (pc' := 51)  hc rfl rfl rfl sh_31 rfl rfl ?_
  refine g_iconst (pc' := 52) (v := (0 : Int32)) hc rfl zki_0 rfl ?_
  refine g_aload_n (pc' := 53)  hc rfl rfl rfl rfl ?_
  refine z_getR (pc' := 56)  hc rfl rfl rfl sh_41 rfl rfl ?_
  refine g_iconst (pc' := 57) (v := (0 : Int32)) hc rfl zki_0 rfl ?_
  refine g_bipush (pc' := 59) (v := (8 : Int32)) hc rfl zkb_8 rfl ?_
  refine z_acpy (pc' := 62) (f := (I 33)) (g := (I 43)) (L' := [(41, some 0, fun _ => (I 31 0)), (41, some 1, fun _ => (I 31 1)), (41, some 3, fun _ => (I 31 3)), (42, none, (va_cpy ((I 32)) ((I 42)) 0 0 8)), (43, none, (va_cpy ((I 33)) ((I 43)) 0 0 8)), (44, none, (I 44)), (45, none, (I 45))]) hc rfl rfl (zdq hd rfl) rfl sh_33 rfl sh_43 (by decide) rfl rfl rfl rfl rfl rfl ?_
  refine g_aload_n (pc' := 63)  hc rfl rfl rfl rfl ?_
  refine z_getR (pc' := 66)  hc rfl rfl rfl sh_31 rfl rfl ?_
  refine g_iconst (pc' := 67) (v := (0 : Int32)) hc rfl zki_0 rfl ?_
  refine g_aload_n (pc' := 68)  hc rfl rfl rfl rfl ?_
  refine z_getR (pc' := 71)  hc rfl rfl rfl sh_41 rfl rfl ?_
  refine g_iconst (pc' := 72) (v := (0 : Int32)) hc rfl zki_0 rfl ?_
  refine g_bipush (pc' := 74) (v := (8 : Int32)) hc rfl zkb_8 rfl ?_
  refine z_acpy (pc' := 77) (f := (I 34)) (g := (I 44)) (L' := [(41, some 0, fun _ => (I 31 0)), (41, some 1, fun _ => (I 31 1)), (41, some 3, fun _ => (I 31 3)), (42, none, (va_cpy ((I 32)) ((I 42)) 0 0 8)), (43, none, (va_cpy ((I 33)) ((I 43)) 0 0 8)), (44, none, (va_cpy ((I 34)) ((I 44)) 0 0 8)), (45, none, (I 45))]) hc rfl rfl (zdq hd rfl) rfl sh_34 rfl sh_44 (by decide) rfl rfl rfl rfl rfl rfl ?_
  refine g_aload_n (pc' := 78)  hc rfl rfl rfl rfl ?_
  refine z_getR (pc' := 81)  hc rfl rfl rfl sh_31 rfl rfl ?_
  refine g_iconst (pc' := 82) (v := (0 : Int32)) hc rfl zki_0 rfl ?_
  refine g_aload_n (pc' := 83)  hc rfl rfl rfl rfl ?_
  refine z_getR (pc' := 86)  hc rfl rfl rfl sh_41 rfl rfl ?_
  refine g_iconst (pc' := 87) (v := (0 : Int32)) hc rfl zki_0 rfl ?_
  refine g_bipush (pc' := 89) (v := (8 : Int32)) hc rfl zkb_8 rfl ?_
  refine z_acpy (pc' := 92) (f := (I 35)) (g := (I 45)) (L' := [(41, some 0, fun _ => (I 31 0)), (41, some 1, fun _ => (I 31 1)), (41, some 3, fun _ => (I 31 3)), (42, none, (va_cpy ((I 32)) ((I 42)) 0 0 8)), (43, none, (va_cpy ((I 33)) ((I 43)) 0 0 8)), (44, none, (va_cpy ((I 34)) ((I 44)) 0 0 8)), (45, none, (va_cpy ((I 35)) ((I 45)) 0 0 8))]) hc rfl rfl (zdq hd rfl) rfl sh_35 rfl sh_45 (by decide) rfl rfl rfl rfl rfl rfl ?_
  replace h := zws h
  exact g_return hc rfl rfl (fun _ => ⟨rfl, rfl⟩) h
set_option maxRecDepth 4000 in
theorem ok_X0_copyFrom_46_36 {p q : Nat} {I : pI} {J : pJ} {Q : pQ} {d : Nat} (hd : 3 ≤ d) (h : zwp (f_X0_copyFrom (I 46 2) (I 49) (I 36 2) (I 39) (I 38) (I 40) (I 36 1) (I 36 3) (I 37) (I 48) (I 50) (I 46 1) (I 46 3) (I 47)) (fun w => match w with | (o0, o1, o2, o3, o4, o5, o6) => Q (.inl none) (zS p q I [(46, some 1, fun _ => o4), (46, some 2, fun _ => o0), (46, some 3, fun _ => o5), (47, none, o6), (48, none, o2), (49, none, o1), (50, none, o3)] J []))) : pm_call M cost zext d 6 [.ref 46, .ref 36] (pm_st 108 (shp p q) I J) Q := by
  obtain ⟨d, rfl⟩ := zd1 hd rfl
  have hc := pm_call_m (M := M) (cost := cost) zext_m d
  refine z_in (L := [(46, some 1, fun _ => (I 46 1)), (46, some 2, fun _ => (I 46 2)), (46, some 3, fun _ => (I 46 3)), (47, none, (I 47)), (48, none, (I 48)), (49, none, (I 49)), (50, none, (I 50))]) (K := []) (ls := [some (.ref 46), some (.ref 36)]) zmt_6 zco_6 rfl rfl (zid_s (zid_s (zid_s (zid_a (zid_a (zid_a (zid_a zid_n))))))) zid_n ?_
  delta f_X0_copyFrom at h
  refine g_aload_n (pc' := 1)  hc rfl rfl rfl rfl ?_
  refine z_getR (pc' := 4)  hc rfl rfl rfl sh_36 rfl rfl ?_
  refine g_iconst (pc' := 5) (v := (0 : Int32)) hc rfl zki_0 rfl ?_
  refine g_aload_n (pc' := 6)  hc rfl rfl rfl rfl ?_
  refine z_getR (pc' := 9)  hc rfl rfl rfl sh_46 rfl rfl ?_
  refine g_iconst (pc' := 10) (v := (0 : Int32)) hc rfl zki_0 rfl ?_
  refine g_sipush (pc' := 13) (v := (1120 : Int32)) hc rfl zks_1120 rfl ?_
  refine z_acpy (pc' := 16) (f := (I 37)) (g := (I 47)) (L' := [(46, some 1, fun _ => (I 46 1)), (46, some 2, fun _ => (I 46 2)), (46, some 3, fun _ => (I 46 3)), (47, none, (va_cpy ((I 37)) ((I 47)) 0 0 1120)), (48, none, (I 48)), (49, none, (I 49)), (50, none, (I 50))]) hc rfl rfl (zdq hd rfl) rfl sh_37 rfl sh_47 (by decide) rfl rfl rfl rfl rfl rfl ?_
  refine g_aload_n (pc' := 17)  hc rfl rfl rfl rfl ?_
  refine g_aload_n (pc' := 18)  hc rfl rfl rfl rfl ?_
  refine z_getI (pc' := 21) (v := (I 36 1)) hc rfl rfl rfl sh_36 rfl rfl rfl ?_
  refine z_putI (pc' := 24) (L' := [(46, some 1, fun _ => (I 36 1)), (46, some 2, fun _ => (I 46 2)), (46, some 3, fun _ => (I 46 3)), (47, none, (va_cpy ((I 37)) ((I 47)) 0 0 1120)), (48, none, (I 48)), (49, none, (I 49)), (50, none, (I 50))]) hc rfl rfl rfl sh_46 rfl zft_0_1 rfl (fun h => Bool.noConfusion h) rfl rfl rfl ?_
  refine g_aload_n (pc' := 25)  hc rfl rfl rfl rfl ?_
  refine g_aload_n (pc' := 26)  hc rfl rfl rfl rfl ?_
  refine z_getI (pc' := 29) (v := (I 36 2)) hc rfl rfl rfl sh_36 rfl rfl rfl ?_
  refine z_putI (pc' := 32) (L' := [(46, some 1, fun _ => (I 36 1)), (46, some 2, fun _ => (I 36 2)), (46, some 3, fun _ => (I 46 3)), (47, none, (va_cpy ((I 37)) ((I 47)) 0 0 1120)), (48, none, (I 48)), (49, none, (I 49)), (50, none, (I 50))]) hc rfl rfl rfl sh_46 rfl zft_0_2 rfl (fun h => Bool.noConfusion h) rfl rfl rfl ?_
  refine g_aload_n (pc' := 33)  hc rfl rfl rfl rfl ?_
  refine g_aload_n (pc' := 34)  hc rfl rfl rfl rfl ?_
  refine z_getI (pc' := 37) (v := (I 36 3)) hc rfl rfl rfl sh_36 rfl rfl rfl ?_
  refine z_putI (pc' := 40) (L' := [(46, some 1, fun _ => (I 36 1)), (46, some 2, fun _ => (I 36 2)), (46, some 3, fun _ => (I 36 3)), (47, none, (va_cpy ((I 37)) ((I 47)) 0 0 1120)), (48, none, (I 48)), (49, none, (I 49)), (50, none, (I 50))]) hc rfl rfl rfl sh_46 rfl zft_0_3 rfl (fun h => Bool.noConfusion h) rfl rfl rfl ?_
  refine g_aload_n (pc' := 41)  hc rfl rfl rfl rfl ?_
  refine z_getR (pc' := 44)  hc rfl rfl rfl sh_36 rfl rfl ?_
  refine g_iconst (pc' := 45) (v := (0 : Int32)) hc rfl zki_0 rfl ?_
  refine g_aload_n (pc' := 46)  hc rfl rfl rfl rfl ?_
  refine z_getR (pc' := 49)  hc rfl rfl rfl sh_46 rfl rfl ?_
  refine g_iconst (pc' := 50) (v := (0 : Int32)) hc rfl zki_0 rfl ?_
  refine g_bipush (pc' := 52) (v := (8 : Int32)) hc rfl zkb_8 rfl ?_
  refine z_acpy (pc' := 55) (f := (I 38)) (g := (I 48)) (L' := [(46, some 1, fun _ => (I 36 1)), (46, some 2, fun _ => (I 36 2)), (46, some 3, fun _ => (I 36 3)), (47, none, (va_cpy ((I 37)) ((I 47)) 0 0 1120)), (48, none, (va_cpy ((I 38)) ((I 48)) 0 0 8)), (49, none, (I 49)), (50, none, (I 50))]) hc rfl rfl (zdq hd rfl) rfl sh_38 rfl sh_48 (by decide) rfl rfl rfl rfl rfl rfl ?_
  refine g_aload_n (pc' := 56)  hc rfl rfl rfl rfl ?_
  refine z_getR (pc' := 59)  hc rfl rfl rfl sh_36 rfl rfl ?_
  refine g_iconst (pc' := 60) (v := (0 : Int32)) hc rfl zki_0 rfl ?_
  refine g_aload_n (pc' := 61)  hc rfl rfl rfl rfl ?_
  refine z_getR (pc' := 64)  hc rfl rfl rfl sh_46 rfl rfl ?_
  refine g_iconst (pc' := 65) (v := (0 : Int32)) hc rfl zki_0 rfl ?_
  refine g_bipush (pc' := 67) (v := (8 : Int32)) hc rfl zkb_8 rfl ?_
  refine z_acpy (pc' := 70) (f := (I 39)) (g := (I 49)) (L' := [(46, some 1, fun _ => (I 36 1)), (46, some 2, fun _ => (I 36 2)), (46, some 3, fun _ => (I 36 3)), (47, none, (va_cpy ((I 37)) ((I 47)) 0 0 1120)), (48, none, (va_cpy ((I 38)) ((I 48)) 0 0 8)), (49, none, (va_cpy ((I 39)) ((I 49)) 0 0 8)), (50, none, (I 50))]) hc rfl rfl (zdq hd rfl) rfl sh_39 rfl sh_49 (by decide) rfl rfl rfl rfl rfl rfl ?_
  refine g_aload_n (pc' := 71)  hc rfl rfl rfl rfl ?_
  refine z_getR (pc' := 74)  hc rfl rfl rfl sh_36 rfl rfl ?_
  refine g_iconst (pc' := 75) (v := (0 : Int32)) hc rfl zki_0 rfl ?_
  refine g_aload_n (pc' := 76)  hc rfl rfl rfl rfl ?_
  refine z_getR (pc' := 79)  hc rfl rfl rfl sh_46 rfl rfl ?_
  refine g_iconst (pc' := 80) (v := (0 : Int32)) hc rfl zki_0 rfl ?_
  refine g_bipush (pc' := 82) (v := (8 : Int32)) hc rfl zkb_8 rfl ?_
  refine z_acpy (pc' := 85) (f := (I 40)) (g := (I 50)) (L' := [(46, some 1, fun _ => (I 36 1)), (46, some 2, fun _ => (I 36 2)), (46, some 3, fun _ => (I 36 3)), (47, none, (va_cpy ((I 37)) ((I 47)) 0 0 1120)), (48, none, (va_cpy ((I 38)) ((I 48)) 0 0 8)), (49, none, (va_cpy ((I 39)) ((I 49)) 0 0 8)), (50, none, (va_cpy ((I 40)) ((I 50)) 0 0 8))]) hc rfl rfl (zdq hd rfl) rfl sh_40 rfl sh_50 (by decide) rfl rfl rfl rfl rfl rfl ?_
  replace h := zws h
  exact g_return hc rfl rfl (fun _ => ⟨rfl, rfl⟩) h
set_option maxRecDepth 4000 in
theorem ok_X11_image_0 {p q : Nat} {I : pI} {J : pJ} {Q : pQ} {d : Nat} (hd : 4 ≤ d) (h : zwp (f_X11_image (I 36 2) (I 39) (I 38) (I 40) (I 36 1) (I 36 3) (I 37) (I 46 2) (I 49) (I 48) (I 50) (I 46 1) (I 46 3) (I 47) (I 42) (I 41 3) (I 44) (I 41 0) (I 45) (I 41 1) (I 43) (J 41 2) (I 0 8) (I 32) (I 31 3) (I 34) (I 31 0) (I 35) (I 31 1) (I 33) (J 31 2)) (fun w => match w with | (o0, o1, o2, o3, o4, o5, o6, o7, o8, o9, o10, o11, o12, o13, o14, o15) => Q (.inl none) (zS p q I [(0, some 8, fun _ => o15), (41, some 0, fun _ => o10), (41, some 1, fun _ => o12), (41, some 3, fun _ => o8), (42, none, o7), (43, none, o13), (44, none, o9), (45, none, o11), (46, some 1, fun _ => o4), (46, some 2, fun _ => o0), (46, some 3, fun _ => o5), (47, none, o6), (48, none, o2), (49, none, o1), (50, none, o3)] J [(41, some 2, fun _ => o14)]))) : pm_call M cost zext d 131 [.ref 0] (pm_st 108 (shp p q) I J) Q := by
  obtain ⟨d, rfl⟩ := zd1 hd rfl
  have hc := pm_call_m (M := M) (cost := cost) zext_m d
  refine z_in (L := [(0, some 8, fun _ => (I 0 8)), (41, some 0, fun _ => (I 41 0)), (41, some 1, fun _ => (I 41 1)), (41, some 3, fun _ => (I 41 3)), (42, none, (I 42)), (43, none, (I 43)), (44, none, (I 44)), (45, none, (I 45)), (46, some 1, fun _ => (I 46 1)), (46, some 2, fun _ => (I 46 2)), (46, some 3, fun _ => (I 46 3)), (47, none, (I 47)), (48, none, (I 48)), (49, none, (I 49)), (50, none, (I 50))]) (K := [(41, some 2, fun _ => (J 41 2))]) (ls := [some (.ref 0)]) zmt_131 zco_131 rfl rfl (zid_s (zid_s (zid_s (zid_s (zid_a (zid_a (zid_a (zid_a (zid_s (zid_s (zid_s (zid_a (zid_a (zid_a (zid_a zid_n))))))))))))))) (zid_s zid_n) ?_
  delta f_X11_image at h
  refine g_aload_n (pc' := 1)  hc rfl rfl rfl rfl ?_
  refine g_iconst (pc' := 2) (v := (1 : Int32)) hc rfl zki_1 rfl ?_
  refine z_putI (pc' := 5) (L' := [(0, some 8, fun _ => (1 : Int32)), (41, some 0, fun _ => (I 41 0)), (41, some 1, fun _ => (I 41 1)), (41, some 3, fun _ => (I 41 3)), (42, none, (I 42)), (43, none, (I 43)), (44, none, (I 44)), (45, none, (I 45)), (46, some 1, fun _ => (I 46 1)), (46, some 2, fun _ => (I 46 2)), (46, some 3, fun _ => (I 46 3)), (47, none, (I 47)), (48, none, (I 48)), (49, none, (I 49)), (50, none, (I 50))]) hc rfl rfl rfl sh_0 rfl zft_11_8 rfl (fun h => Bool.noConfusion h) rfl rfl rfl ?_
  refine g_aload_n (pc' := 6)  hc rfl rfl rfl rfl ?_
  refine z_getR (pc' := 9)  hc rfl rfl rfl sh_0 rfl rfl ?_
  refine g_aload_n (pc' := 10)  hc rfl rfl rfl rfl ?_
  refine z_getR (pc' := 13)  hc rfl rfl rfl sh_0 rfl rfl ?_
  refine z_virt (as := [.ref 31]) (a := 41) (r := []) hc rfl rfl rfl rfl sh_41 rfl zco_68 rfl rfl rfl ?_
  refine ok_X8_copyFrom_41_31 (zdp hd rfl) (zwp_mono (zwp_bind h) ?_)
  rintro ⟨o1, o2, o3, o4, o5, o6, o7, o8⟩ h
  refine z_po (pc' := 16) (st' := []) (v := none) (L' := [(0, some 8, fun _ => (1 : Int32)), (41, some 0, fun _ => o4), (41, some 1, fun _ => o6), (41, some 3, fun _ => o2), (42, none, o1), (43, none, o7), (44, none, o3), (45, none, o5), (46, some 1, fun _ => (I 46 1)), (46, some 2, fun _ => (I 46 2)), (46, some 3, fun _ => (I 46 3)), (47, none, (I 47)), (48, none, (I 48)), (49, none, (I 49)), (50, none, (I 50))]) (K' := [(41, some 2, fun _ => o8)]) zco_68 rfl rfl rfl rfl rfl rfl rfl rfl ?_
  refine g_aload_n (pc' := 17)  hc rfl rfl rfl rfl ?_
  refine z_getR (pc' := 20)  hc rfl rfl rfl sh_0 rfl rfl ?_
  refine g_aload_n (pc' := 21)  hc rfl rfl rfl rfl ?_
  refine z_getR (pc' := 24)  hc rfl rfl rfl sh_0 rfl rfl ?_
  refine z_virt (as := [.ref 36]) (a := 46) (r := []) hc rfl rfl rfl rfl sh_46 rfl zco_6 rfl rfl rfl ?_
  refine ok_X0_copyFrom_46_36 (zdp hd rfl) (zwp_mono (zwp_bind h) ?_)
  rintro ⟨o9, o10, o11, o12, o13, o14, o15⟩ h
  refine z_po (pc' := 27) (st' := []) (v := none) (L' := [(0, some 8, fun _ => (1 : Int32)), (41, some 0, fun _ => o4), (41, some 1, fun _ => o6), (41, some 3, fun _ => o2), (42, none, o1), (43, none, o7), (44, none, o3), (45, none, o5), (46, some 1, fun _ => o13), (46, some 2, fun _ => o9), (46, some 3, fun _ => o14), (47, none, o15), (48, none, o11), (49, none, o10), (50, none, o12)]) (K' := [(41, some 2, fun _ => o8)]) zco_6 rfl rfl rfl rfl rfl rfl rfl rfl ?_
  replace h := zws h
  exact g_return hc rfl rfl (fun _ => ⟨rfl, rfl⟩) h
set_option maxRecDepth 4000 in
theorem ok_X8_copyFrom_31_41 {p q : Nat} {I : pI} {J : pJ} {Q : pQ} {d : Nat} (hd : 3 ≤ d) (h : zwp (f_X8_copyFrom (I 32) (I 31 3) (I 34) (I 31 0) (I 35) (I 31 1) (I 33) (I 42) (I 41 3) (I 44) (I 41 0) (I 45) (I 41 1) (I 43) (J 41 2) (J 31 2)) (fun w => match w with | (o0, o1, o2, o3, o4, o5, o6, o7) => Q (.inl none) (zS p q I [(31, some 0, fun _ => o3), (31, some 1, fun _ => o5), (31, some 3, fun _ => o1), (32, none, o0), (33, none, o6), (34, none, o2), (35, none, o4)] J [(31, some 2, fun _ => o7)]))) : pm_call M cost zext d 68 [.ref 31, .ref 41] (pm_st 108 (shp p q) I J) Q := by
  obtain ⟨d, rfl⟩ := zd1 hd rfl
  have hc := pm_call_m (M := M) (cost := cost) zext_m d
  refine z_in (L := [(31, some 0, fun _ => (I 31 0)), (31, some 1, fun _ => (I 31 1)), (31, some 3, fun _ => (I 31 3)), (32, none, (I 32)), (33, none, (I 33)), (34, none, (I 34)), (35, none, (I 35))]) (K := [(31, some 2, fun _ => (J 31 2))]) (ls := [some (.ref 31), some (.ref 41)]) zmt_68 zco_68 rfl rfl (zid_s (zid_s (zid_s (zid_a (zid_a (zid_a (zid_a zid_n))))))) (zid_s zid_n) ?_
  delta f_X8_copyFrom at h
  refine g_aload_n (pc' := 1)  hc rfl rfl rfl rfl ?_
  refine g_aload_n (pc' := 2)  hc rfl rfl rfl rfl ?_
  refine z_getI (pc' := 5) (v := (I 41 0)) hc rfl rfl rfl sh_41 rfl rfl rfl ?_
  refine z_putI (pc' := 8) (L' := [(31, some 0, fun _ => (I 41 0)), (31, some 1, fun _ => (I 31 1)), (31, some 3, fun _ => (I 31 3)), (32, none, (I 32)), (33, none, (I 33)), (34, none, (I 34)), (35, none, (I 35))]) hc rfl rfl rfl sh_31 rfl zft_8_0 rfl (fun h => Bool.noConfusion h) rfl rfl rfl ?_
  refine g_aload_n (pc' := 9)  hc rfl rfl rfl rfl ?_
  refine g_aload_n (pc' := 10)  hc rfl rfl rfl rfl ?_
  refine z_getI (pc' := 13) (v := (I 41 1)) hc rfl rfl rfl sh_41 rfl rfl rfl ?_
  refine z_putI (pc' := 16) (L' := [(31, some 0, fun _ => (I 41 0)), (31, some 1, fun _ => (I 41 1)), (31, some 3, fun _ => (I 31 3)), (32, none, (I 32)), (33, none, (I 33)), (34, none, (I 34)), (35, none, (I 35))]) hc rfl rfl rfl sh_31 rfl zft_8_1 rfl (fun h => Bool.noConfusion h) rfl rfl rfl ?_
  refine g_aload_n (pc' := 17)  hc rfl rfl rfl rfl ?_
  refine g_aload_n (pc' := 18)  hc rfl rfl rfl rfl ?_
  refine z_getJ (pc' := 21) (v := (J 41 2)) hc rfl rfl rfl sh_41 rfl rfl rfl ?_
  refine z_putJ (pc' := 24) (K' := [(31, some 2, fun _ => (J 41 2))]) hc rfl rfl rfl sh_31 rfl zft_8_2 (fun h => Bool.noConfusion h) rfl rfl rfl ?_
  refine g_aload_n (pc' := 25)  hc rfl rfl rfl rfl ?_
  refine g_aload_n (pc' := 26)  hc rfl rfl rfl rfl ?_
  refine z_getI (pc' := 29) (v := (I 41 3)) hc rfl rfl rfl sh_41 rfl rfl rfl ?_
  refine z_putI (pc' := 32) (L' := [(31, some 0, fun _ => (I 41 0)), (31, some 1, fun _ => (I 41 1)), (31, some 3, fun _ => (I 41 3)), (32, none, (I 32)), (33, none, (I 33)), (34, none, (I 34)), (35, none, (I 35))]) hc rfl rfl rfl sh_31 rfl zft_8_3 rfl (fun h => Bool.noConfusion h) rfl rfl rfl ?_
  refine g_aload_n (pc' := 33)  hc rfl rfl rfl rfl ?_
  refine z_getR (pc' := 36)  hc rfl rfl rfl sh_41 rfl rfl ?_
  refine g_iconst (pc' := 37) (v := (0 : Int32)) hc rfl zki_0 rfl ?_
  refine g_aload_n (pc' := 38)  hc rfl rfl rfl rfl ?_
  refine z_getR (pc' := 41)  hc rfl rfl rfl sh_31 rfl rfl ?_
  refine g_iconst (pc' := 42) (v := (0 : Int32)) hc rfl zki_0 rfl ?_
  refine g_bipush (pc' := 44) (v := (8 : Int32)) hc rfl zkb_8 rfl ?_
  refine z_acpy (pc' := 47) (f := (I 42)) (g := (I 32)) (L' := [(31, some 0, fun _ => (I 41 0)), (31, some 1, fun _ => (I 41 1)), (31, some 3, fun _ => (I 41 3)), (32, none, (va_cpy ((I 42)) ((I 32)) 0 0 8)), (33, none, (I 33)), (34, none, (I 34)), (35, none, (I 35))]) hc rfl rfl (zdq hd rfl) rfl sh_42 rfl sh_32 (by decide) rfl rfl rfl rfl rfl rfl ?_
  refine g_aload_n (pc' := 48)  hc rfl rfl rfl rfl ?_
  refine z_getR (pc' := 51)  hc rfl rfl rfl sh_41 rfl rfl ?_
  refine g_iconst (pc' := 52) (v := (0 : Int32)) hc rfl zki_0 rfl ?_
  refine g_aload_n (pc' := 53)  hc rfl rfl rfl rfl ?_
  refine z_getR (pc' := 56)  hc rfl rfl rfl sh_31 rfl rfl ?_
  refine g_iconst (pc' := 57) (v := (0 : Int32)) hc rfl zki_0 rfl ?_
  refine g_bipush (pc' := 59) (v := (8 : Int32)) hc rfl zkb_8 rfl ?_
  refine z_acpy (pc' := 62) (f := (I 43)) (g := (I 33)) (L' := [(31, some 0, fun _ => (I 41 0)), (31, some 1, fun _ => (I 41 1)), (31, some 3, fun _ => (I 41 3)), (32, none, (va_cpy ((I 42)) ((I 32)) 0 0 8)), (33, none, (va_cpy ((I 43)) ((I 33)) 0 0 8)), (34, none, (I 34)), (35, none, (I 35))]) hc rfl rfl (zdq hd rfl) rfl sh_43 rfl sh_33 (by decide) rfl rfl rfl rfl rfl rfl ?_
  refine g_aload_n (pc' := 63)  hc rfl rfl rfl rfl ?_
  refine z_getR (pc' := 66)  hc rfl rfl rfl sh_41 rfl rfl ?_
  refine g_iconst (pc' := 67) (v := (0 : Int32)) hc rfl zki_0 rfl ?_
  refine g_aload_n (pc' := 68)  hc rfl rfl rfl rfl ?_
  refine z_getR (pc' := 71)  hc rfl rfl rfl sh_31 rfl rfl ?_
  refine g_iconst (pc' := 72) (v := (0 : Int32)) hc rfl zki_0 rfl ?_
  refine g_bipush (pc' := 74) (v := (8 : Int32)) hc rfl zkb_8 rfl ?_
  refine z_acpy (pc' := 77) (f := (I 44)) (g := (I 34)) (L' := [(31, some 0, fun _ => (I 41 0)), (31, some 1, fun _ => (I 41 1)), (31, some 3, fun _ => (I 41 3)), (32, none, (va_cpy ((I 42)) ((I 32)) 0 0 8)), (33, none, (va_cpy ((I 43)) ((I 33)) 0 0 8)), (34, none, (va_cpy ((I 44)) ((I 34)) 0 0 8)), (35, none, (I 35))]) hc rfl rfl (zdq hd rfl) rfl sh_44 rfl sh_34 (by decide) rfl rfl rfl rfl rfl rfl ?_
  refine g_aload_n (pc' := 78)  hc rfl rfl rfl rfl ?_
  refine z_getR (pc' := 81)  hc rfl rfl rfl sh_41 rfl rfl ?_
  refine g_iconst (pc' := 82) (v := (0 : Int32)) hc rfl zki_0 rfl ?_
  refine g_aload_n (pc' := 83)  hc rfl rfl rfl rfl ?_
  refine z_getR (pc' := 86)  hc rfl rfl rfl sh_31 rfl rfl ?_
  refine g_iconst (pc' := 87) (v := (0 : Int32)) hc rfl zki_0 rfl ?_
  refine g_bipush (pc' := 89) (v := (8 : Int32)) hc rfl zkb_8 rfl ?_
  refine z_acpy (pc' := 92) (f := (I 45)) (g := (I 35)) (L' := [(31, some 0, fun _ => (I 41 0)), (31, some 1, fun _ => (I 41 1)), (31, some 3, fun _ => (I 41 3)), (32, none, (va_cpy ((I 42)) ((I 32)) 0 0 8)), (33, none, (va_cpy ((I 43)) ((I 33)) 0 0 8)), (34, none, (va_cpy ((I 44)) ((I 34)) 0 0 8)), (35, none, (va_cpy ((I 45)) ((I 35)) 0 0 8))]) hc rfl rfl (zdq hd rfl) rfl sh_45 rfl sh_35 (by decide) rfl rfl rfl rfl rfl rfl ?_
  replace h := zws h
  exact g_return hc rfl rfl (fun _ => ⟨rfl, rfl⟩) h
set_option maxRecDepth 4000 in
theorem ok_X0_copyFrom_36_46 {p q : Nat} {I : pI} {J : pJ} {Q : pQ} {d : Nat} (hd : 3 ≤ d) (h : zwp (f_X0_copyFrom (I 36 2) (I 39) (I 46 2) (I 49) (I 48) (I 50) (I 46 1) (I 46 3) (I 47) (I 38) (I 40) (I 36 1) (I 36 3) (I 37)) (fun w => match w with | (o0, o1, o2, o3, o4, o5, o6) => Q (.inl none) (zS p q I [(36, some 1, fun _ => o4), (36, some 2, fun _ => o0), (36, some 3, fun _ => o5), (37, none, o6), (38, none, o2), (39, none, o1), (40, none, o3)] J []))) : pm_call M cost zext d 6 [.ref 36, .ref 46] (pm_st 108 (shp p q) I J) Q := by
  obtain ⟨d, rfl⟩ := zd1 hd rfl
  have hc := pm_call_m (M := M) (cost := cost) zext_m d
  refine z_in (L := [(36, some 1, fun _ => (I 36 1)), (36, some 2, fun _ => (I 36 2)), (36, some 3, fun _ => (I 36 3)), (37, none, (I 37)), (38, none, (I 38)), (39, none, (I 39)), (40, none, (I 40))]) (K := []) (ls := [some (.ref 36), some (.ref 46)]) zmt_6 zco_6 rfl rfl (zid_s (zid_s (zid_s (zid_a (zid_a (zid_a (zid_a zid_n))))))) zid_n ?_
  delta f_X0_copyFrom at h
  refine g_aload_n (pc' := 1)  hc rfl rfl rfl rfl ?_
  refine z_getR (pc' := 4)  hc rfl rfl rfl sh_46 rfl rfl ?_
  refine g_iconst (pc' := 5) (v := (0 : Int32)) hc rfl zki_0 rfl ?_
  refine g_aload_n (pc' := 6)  hc rfl rfl rfl rfl ?_
  refine z_getR (pc' := 9)  hc rfl rfl rfl sh_36 rfl rfl ?_
  refine g_iconst (pc' := 10) (v := (0 : Int32)) hc rfl zki_0 rfl ?_
  refine g_sipush (pc' := 13) (v := (1120 : Int32)) hc rfl zks_1120 rfl ?_
  refine z_acpy (pc' := 16) (f := (I 47)) (g := (I 37)) (L' := [(36, some 1, fun _ => (I 36 1)), (36, some 2, fun _ => (I 36 2)), (36, some 3, fun _ => (I 36 3)), (37, none, (va_cpy ((I 47)) ((I 37)) 0 0 1120)), (38, none, (I 38)), (39, none, (I 39)), (40, none, (I 40))]) hc rfl rfl (zdq hd rfl) rfl sh_47 rfl sh_37 (by decide) rfl rfl rfl rfl rfl rfl ?_
  refine g_aload_n (pc' := 17)  hc rfl rfl rfl rfl ?_
  refine g_aload_n (pc' := 18)  hc rfl rfl rfl rfl ?_
  refine z_getI (pc' := 21) (v := (I 46 1)) hc rfl rfl rfl sh_46 rfl rfl rfl ?_
  refine z_putI (pc' := 24) (L' := [(36, some 1, fun _ => (I 46 1)), (36, some 2, fun _ => (I 36 2)), (36, some 3, fun _ => (I 36 3)), (37, none, (va_cpy ((I 47)) ((I 37)) 0 0 1120)), (38, none, (I 38)), (39, none, (I 39)), (40, none, (I 40))]) hc rfl rfl rfl sh_36 rfl zft_0_1 rfl (fun h => Bool.noConfusion h) rfl rfl rfl ?_
  refine g_aload_n (pc' := 25)  hc rfl rfl rfl rfl ?_
  refine g_aload_n (pc' := 26)  hc rfl rfl rfl rfl ?_
  refine z_getI (pc' := 29) (v := (I 46 2)) hc rfl rfl rfl sh_46 rfl rfl rfl ?_
  refine z_putI (pc' := 32) (L' := [(36, some 1, fun _ => (I 46 1)), (36, some 2, fun _ => (I 46 2)), (36, some 3, fun _ => (I 36 3)), (37, none, (va_cpy ((I 47)) ((I 37)) 0 0 1120)), (38, none, (I 38)), (39, none, (I 39)), (40, none, (I 40))]) hc rfl rfl rfl sh_36 rfl zft_0_2 rfl (fun h => Bool.noConfusion h) rfl rfl rfl ?_
  refine g_aload_n (pc' := 33)  hc rfl rfl rfl rfl ?_
  refine g_aload_n (pc' := 34)  hc rfl rfl rfl rfl ?_
  refine z_getI (pc' := 37) (v := (I 46 3)) hc rfl rfl rfl sh_46 rfl rfl rfl ?_
  refine z_putI (pc' := 40) (L' := [(36, some 1, fun _ => (I 46 1)), (36, some 2, fun _ => (I 46 2)), (36, some 3, fun _ => (I 46 3)), (37, none, (va_cpy ((I 47)) ((I 37)) 0 0 1120)), (38, none, (I 38)), (39, none, (I 39)), (40, none, (I 40))]) hc rfl rfl rfl sh_36 rfl zft_0_3 rfl (fun h => Bool.noConfusion h) rfl rfl rfl ?_
  refine g_aload_n (pc' := 41)  hc rfl rfl rfl rfl ?_
  refine z_getR (pc' := 44)  hc rfl rfl rfl sh_46 rfl rfl ?_
  refine g_iconst (pc' := 45) (v := (0 : Int32)) hc rfl zki_0 rfl ?_
  refine g_aload_n (pc' := 46)  hc rfl rfl rfl rfl ?_
  refine z_getR (pc' := 49)  hc rfl rfl rfl sh_36 rfl rfl ?_
  refine g_iconst (pc' := 50) (v := (0 : Int32)) hc rfl zki_0 rfl ?_
  refine g_bipush (pc' := 52) (v := (8 : Int32)) hc rfl zkb_8 rfl ?_
  refine z_acpy (pc' := 55) (f := (I 48)) (g := (I 38)) (L' := [(36, some 1, fun _ => (I 46 1)), (36, some 2, fun _ => (I 46 2)), (36, some 3, fun _ => (I 46 3)), (37, none, (va_cpy ((I 47)) ((I 37)) 0 0 1120)), (38, none, (va_cpy ((I 48)) ((I 38)) 0 0 8)), (39, none, (I 39)), (40, none, (I 40))]) hc rfl rfl (zdq hd rfl) rfl sh_48 rfl sh_38 (by decide) rfl rfl rfl rfl rfl rfl ?_
  refine g_aload_n (pc' := 56)  hc rfl rfl rfl rfl ?_
  refine z_getR (pc' := 59)  hc rfl rfl rfl sh_46 rfl rfl ?_
  refine g_iconst (pc' := 60) (v := (0 : Int32)) hc rfl zki_0 rfl ?_
  refine g_aload_n (pc' := 61)  hc rfl rfl rfl rfl ?_
  refine z_getR (pc' := 64)  hc rfl rfl rfl sh_36 rfl rfl ?_
  refine g_iconst (pc' := 65) (v := (0 : Int32)) hc rfl zki_0 rfl ?_
  refine g_bipush (pc' := 67) (v := (8 : Int32)) hc rfl zkb_8 rfl ?_
  refine z_acpy (pc' := 70) (f := (I 49)) (g := (I 39)) (L' := [(36, some 1, fun _ => (I 46 1)), (36, some 2, fun _ => (I 46 2)), (36, some 3, fun _ => (I 46 3)), (37, none, (va_cpy ((I 47)) ((I 37)) 0 0 1120)), (38, none, (va_cpy ((I 48)) ((I 38)) 0 0 8)), (39, none, (va_cpy ((I 49)) ((I 39)) 0 0 8)), (40, none, (I 40))]) hc rfl rfl (zdq hd rfl) rfl sh_49 rfl sh_39 (by decide) rfl rfl rfl rfl rfl rfl ?_
  refine g_aload_n (pc' := 71)  hc rfl rfl rfl rfl ?_
  refine z_getR (pc' := 74)  hc rfl rfl rfl sh_46 rfl rfl ?_
  refine g_iconst (pc' := 75) (v := (0 : Int32)) hc rfl zki_0 rfl ?_
  refine g_aload_n (pc' := 76)  hc rfl rfl rfl rfl ?_
  refine z_getR (pc' := 79)  hc rfl rfl rfl sh_36 rfl rfl ?_
  refine g_iconst (pc' := 80) (v := (0 : Int32)) hc rfl zki_0 rfl ?_
  refine g_bipush (pc' := 82) (v := (8 : Int32)) hc rfl zkb_8 rfl ?_
  refine z_acpy (pc' := 85) (f := (I 50)) (g := (I 40)) (L' := [(36, some 1, fun _ => (I 46 1)), (36, some 2, fun _ => (I 46 2)), (36, some 3, fun _ => (I 46 3)), (37, none, (va_cpy ((I 47)) ((I 37)) 0 0 1120)), (38, none, (va_cpy ((I 48)) ((I 38)) 0 0 8)), (39, none, (va_cpy ((I 49)) ((I 39)) 0 0 8)), (40, none, (va_cpy ((I 50)) ((I 40)) 0 0 8))]) hc rfl rfl (zdq hd rfl) rfl sh_50 rfl sh_40 (by decide) rfl rfl rfl rfl rfl rfl ?_
  replace h := zws h
  exact g_return hc rfl rfl (fun _ => ⟨rfl, rfl⟩) h
set_option maxRecDepth 4000 in
theorem ok_X11_restore_0 {p q : Nat} {I : pI} {J : pJ} {Q : pQ} {d : Nat} (hd : 4 ≤ d) (h : zwp (f_X11_restore (I 36 2) (I 39) (I 38) (I 40) (I 36 1) (I 36 3) (I 37) (I 46 2) (I 49) (I 48) (I 50) (I 46 1) (I 46 3) (I 47) (I 42) (I 41 3) (I 44) (I 41 0) (I 45) (I 41 1) (I 43) (J 41 2) (I 0 8) (I 32) (I 31 3) (I 34) (I 31 0) (I 35) (I 31 1) (I 33) (J 31 2)) (fun w => match w with | (r, o0, o1, o2, o3, o4, o5, o6, o7, o8, o9, o10, o11, o12, o13, o14) => Q (.inl (some (.int r))) (zS p q I [(31, some 0, fun _ => o10), (31, some 1, fun _ => o12), (31, some 3, fun _ => o8), (32, none, o7), (33, none, o13), (34, none, o9), (35, none, o11), (36, some 1, fun _ => o4), (36, some 2, fun _ => o0), (36, some 3, fun _ => o5), (37, none, o6), (38, none, o2), (39, none, o1), (40, none, o3)] J [(31, some 2, fun _ => o14)]))) : pm_call M cost zext d 132 [.ref 0] (pm_st 108 (shp p q) I J) Q := by
  obtain ⟨d, rfl⟩ := zd1 hd rfl
  have hc := pm_call_m (M := M) (cost := cost) zext_m d
  refine z_in (L := [(31, some 0, fun _ => (I 31 0)), (31, some 1, fun _ => (I 31 1)), (31, some 3, fun _ => (I 31 3)), (32, none, (I 32)), (33, none, (I 33)), (34, none, (I 34)), (35, none, (I 35)), (36, some 1, fun _ => (I 36 1)), (36, some 2, fun _ => (I 36 2)), (36, some 3, fun _ => (I 36 3)), (37, none, (I 37)), (38, none, (I 38)), (39, none, (I 39)), (40, none, (I 40))]) (K := [(31, some 2, fun _ => (J 31 2))]) (ls := [some (.ref 0)]) zmt_132 zco_132 rfl rfl (zid_s (zid_s (zid_s (zid_a (zid_a (zid_a (zid_a (zid_s (zid_s (zid_s (zid_a (zid_a (zid_a (zid_a zid_n)))))))))))))) (zid_s zid_n) ?_
  delta f_X11_restore at h
  refine g_aload_n (pc' := 1)  hc rfl rfl rfl rfl ?_
  refine z_getI (pc' := 4) (v := (I 0 8)) hc rfl rfl rfl sh_0 rfl rfl rfl ?_
  refine g_if_ne (pc' := 7) hc rfl rfl (fun hx => ?_) (fun hx => ?_)
  · replace h := zwp_f h hx
    refine g_aload_n (pc' := 10)  hc rfl rfl rfl rfl ?_
    refine z_getR (pc' := 13)  hc rfl rfl rfl sh_0 rfl rfl ?_
    refine g_aload_n (pc' := 14)  hc rfl rfl rfl rfl ?_
    refine z_getR (pc' := 17)  hc rfl rfl rfl sh_0 rfl rfl ?_
    refine z_virt (as := [.ref 41]) (a := 31) (r := []) hc rfl rfl rfl rfl sh_31 rfl zco_68 rfl rfl rfl ?_
    refine ok_X8_copyFrom_31_41 (zdp hd rfl) (zwp_mono (zwp_bind h) ?_)
    rintro ⟨o1, o2, o3, o4, o5, o6, o7, o8⟩ h
    refine z_po (pc' := 20) (st' := []) (v := none) (L' := [(31, some 0, fun _ => o4), (31, some 1, fun _ => o6), (31, some 3, fun _ => o2), (32, none, o1), (33, none, o7), (34, none, o3), (35, none, o5), (36, some 1, fun _ => (I 36 1)), (36, some 2, fun _ => (I 36 2)), (36, some 3, fun _ => (I 36 3)), (37, none, (I 37)), (38, none, (I 38)), (39, none, (I 39)), (40, none, (I 40))]) (K' := [(31, some 2, fun _ => o8)]) zco_68 rfl rfl rfl rfl rfl rfl rfl rfl ?_
    refine g_aload_n (pc' := 21)  hc rfl rfl rfl rfl ?_
    refine z_getR (pc' := 24)  hc rfl rfl rfl sh_0 rfl rfl ?_
    refine g_aload_n (pc' := 25)  hc rfl rfl rfl rfl ?_
    refine z_getR (pc' := 28)  hc rfl rfl rfl sh_0 rfl rfl ?_
    refine z_virt (as := [.ref 46]) (a := 36) (r := []) hc rfl rfl rfl rfl sh_36 rfl zco_6 rfl rfl rfl ?_
    refine ok_X0_copyFrom_36_46 (zdp hd rfl) (zwp_mono (zwp_bind h) ?_)
    rintro ⟨o9, o10, o11, o12, o13, o14, o15⟩ h
    refine z_po (pc' := 31) (st' := []) (v := none) (L' := [(31, some 0, fun _ => o4), (31, some 1, fun _ => o6), (31, some 3, fun _ => o2), (32, none, o1), (33, none, o7), (34, none, o3), (35, none, o5), (36, some 1, fun _ => o13), (36, some 2, fun _ => o9), (36, some 3, fun _ => o14), (37, none, o15), (38, none, o11), (39, none, o10), (40, none, o12)]) (K' := [(31, some 2, fun _ => o8)]) zco_6 rfl rfl rfl rfl rfl rfl rfl rfl ?_
    refine g_iconst (pc' := 32) (v := (1 : Int32)) hc rfl zki_1 rfl ?_
    replace h := zws h
    exact g_ireturn hc rfl rfl rfl (fun _ => ⟨rfl, rfl⟩) h
  · replace h := zwp_t h hx
    refine g_iconst (pc' := 8) (v := (0 : Int32)) hc rfl zki_0 rfl ?_
    replace h := zws h
    exact g_ireturn hc rfl rfl rfl (fun _ => ⟨rfl, rfl⟩) h
set_option maxRecDepth 4000 in
theorem ok_X12_thrown_75 {p q : Nat} {I : pI} {J : pJ} {Q : pQ} {d : Nat} (hd : 1 ≤ d) (h : zwp (f_X12_thrown (I 75 0)) (fun r => Q (.inl (some (.int r))) (zS p q I [] J []))) : pm_call M cost zext d 152 [.ref 75] (pm_st 108 (shp p q) I J) Q := by
  obtain ⟨d, rfl⟩ := zd1 hd rfl
  have hc := pm_call_m (M := M) (cost := cost) zext_m d
  refine z_in (L := []) (K := []) (ls := [some (.ref 75)]) zmt_152 zco_152 rfl rfl zid_n zid_n ?_
  delta f_X12_thrown at h
  refine g_aload_n (pc' := 1)  hc rfl rfl rfl rfl ?_
  refine z_getI (pc' := 4) (v := (I 75 0)) hc rfl rfl rfl sh_75 rfl rfl rfl ?_
  replace h := zws h
  exact g_ireturn hc rfl rfl rfl (fun _ => ⟨rfl, rfl⟩) h
set_option maxRecDepth 4000 in
theorem ok_X12_lays_75 {p q : Nat} {I : pI} {J : pJ} {a1 : Int32} {Q : pQ} {d : Nat} (hd : 1 ≤ d) (h : zwp (f_X12_lays a1 (I 81) (I 75 15)) (fun w => match w with | (o0, o1) => Q (.inl none) (zS p q I [(75, some 15, fun _ => o1), (81, none, o0)] J []))) : pm_call M cost zext d 160 [.ref 75, .int a1] (pm_st 108 (shp p q) I J) Q := by
  obtain ⟨d, rfl⟩ := zd1 hd rfl
  have hc := pm_call_m (M := M) (cost := cost) zext_m d
  refine z_in (L := [(75, some 15, fun _ => (I 75 15)), (81, none, (I 81))]) (K := []) (ls := [some (.ref 75), some (.int a1), none]) zmt_160 zco_160 rfl rfl (zid_s (zid_a zid_n)) zid_n ?_
  delta f_X12_lays at h
  refine g_bipush (pc' := 2) (v := (24 : Int32)) hc rfl zkb_24 rfl ?_
  refine g_istore_n (pc' := 3) (ls1 := [some (.ref 75), some (.int a1), some (.int (24 : Int32))]) hc rfl (zlt rfl) rfl rfl ?_
  refine zjn (G := (fun (g : (Nat → Int32) × Int32) => match g with | (y5, y6) => ∀ z4 : Option Value, znl z4 = true → pm_ev C_X12_lays (d + 1) (pm_call M cost zext d) cost (false, false) 108 0 0 Q 39 [some (.ref 75), some (.int a1), z4] [] 0 0 (zS p q I [(75, some 15, fun _ => y6), (81, none, y5)] J []))) (zwp_bind h) ?_ (fun h => ?_)
  · rintro ⟨y5, y6⟩ h z4 hz4
    replace h := zws h
    exact g_return hc rfl rfl (fun _ => ⟨rfl, rfl⟩) h
  refine zitr_ev (G := (fun (g : Int32 × (Nat → Int32) × Int32) => match g with | (x1, x2, x3) => pm_ev C_X12_lays (d + 1) (pm_call M cost zext d) cost (false, false) 108 0 0 Q 3 [some (.ref 75), some (.int a1), some (.int x1)] [] 0 0 (zS p q I [(75, some 15, fun _ => x3), (81, none, x2)] J []))) ?_ zFU ((24 : Int32), (I 81), (I 75 15)) h
  rintro ⟨x1, x2, x3⟩ h
  refine g_iload_n (pc' := 4)  hc rfl rfl rfl ?_
  refine g_if_lt (pc' := 7) hc rfl rfl (fun hx => ?_) (fun hx => ?_)
  · replace h := zwp_t h hx
    replace h := zwp_r h
    exact h (some (.int x1)) rfl
  · replace h := zwp_f h hx
    refine g_aload_n (pc' := 8)  hc rfl rfl rfl rfl ?_
    refine z_getR (pc' := 11)  hc rfl rfl rfl sh_75 rfl rfl ?_
    refine g_aload_n (pc' := 12)  hc rfl rfl rfl rfl ?_
    refine z_getI (pc' := 15) (v := x3) hc rfl rfl rfl sh_75 rfl rfl rfl ?_
    refine g_iload_n (pc' := 16)  hc rfl rfl rfl ?_
    refine g_iload_n (pc' := 17)  hc rfl rfl rfl ?_
    refine g_ishr (pc' := 18)  hc rfl rfl ?_
    refine g_sipush (pc' := 21) (v := (255 : Int32)) hc rfl zks_255 rfl ?_
    refine g_iand (pc' := 22)  hc rfl rfl ?_
    have hb := (zwp_bnd h).1
    replace h := (zwp_bnd h).2
    refine z_iastore (pc' := 23) (g := x2) (L' := [(75, some 15, fun _ => x3), (81, none, (upd x2 x3.toNatClampNeg ((a1 >>> (x1 &&& 31)) &&& (255 : Int32))))]) hc rfl rfl sh_81 hb rfl rfl rfl rfl ?_
    refine g_aload_n (pc' := 24)  hc rfl rfl rfl rfl ?_
    refine g_dup (pc' := 25)  hc rfl rfl rfl ?_
    refine z_getI (pc' := 28) (v := x3) hc rfl rfl rfl sh_75 rfl rfl rfl ?_
    refine g_iconst (pc' := 29) (v := (1 : Int32)) hc rfl zki_1 rfl ?_
    refine g_iadd (pc' := 30)  hc rfl rfl ?_
    refine z_putI (pc' := 33) (L' := [(75, some 15, fun _ => (x3 + (1 : Int32))), (81, none, (upd x2 x3.toNatClampNeg ((a1 >>> (x1 &&& 31)) &&& (255 : Int32))))]) hc rfl rfl rfl sh_75 rfl zft_12_15 rfl (fun h => Bool.noConfusion h) rfl rfl rfl ?_
    refine g_iinc (pc' := 36) (ls1 := [some (.ref 75), some (.int a1), some (.int (x1 + (-8 : Int32)))]) hc rfl rfl zki_m8 (zlt rfl) rfl rfl ?_
    refine g_goto hc rfl ?_
    replace h := zwp_l h
    exact h
set_option maxRecDepth 4000 in
theorem ok_X12_feed_75 {p q : Nat} {I : pI} {J : pJ} {a1 : Int32} {a2 : Int32} {a3 : Int32} {a4 : Int32} {a5 : Int32} {Q : pQ} {d : Nat} (hd : 2 ≤ d) (h : zwp (f_X12_feed a1 a2 a3 a4 a5 (I 81) (I 75 15) (I 75 0)) (fun w => match w with | (r, o0, o1, o2) => Q (.inl (some (.int r))) (zS p q I [(75, some 0, fun _ => o2), (75, some 15, fun _ => o1), (81, none, o0)] J []))) : pm_call M cost zext d 159 [.ref 75, .int a1, .int a2, .int a3, .int a4, .int a5] (pm_st 108 (shp p q) I J) Q := by
  obtain ⟨d, rfl⟩ := zd1 hd rfl
  have hc := pm_call_m (M := M) (cost := cost) zext_m d
  refine z_in (L := [(75, some 0, fun _ => (I 75 0)), (75, some 15, fun _ => (I 75 15)), (81, none, (I 81))]) (K := []) (ls := [some (.ref 75), some (.int a1), some (.int a2), some (.int a3), some (.int a4), some (.int a5)]) zmt_159 zco_159 rfl rfl (zid_s (zid_s (zid_a zid_n))) zid_n ?_
  delta f_X12_feed at h
  refine g_aload_n (pc' := 1)  hc rfl rfl rfl rfl ?_
  refine g_iconst (pc' := 2) (v := (0 : Int32)) hc rfl zki_0 rfl ?_
  refine z_putI (pc' := 5) (L' := [(75, some 0, fun _ => (0 : Int32)), (75, some 15, fun _ => (I 75 15)), (81, none, (I 81))]) hc rfl rfl rfl sh_75 rfl zft_12_0 rfl (fun h => Bool.noConfusion h) rfl rfl rfl ?_
  refine g_aload_n (pc' := 6)  hc rfl rfl rfl rfl ?_
  refine z_getI (pc' := 9) (v := (I 75 15)) hc rfl rfl rfl sh_75 rfl rfl rfl ?_
  refine g_bipush (pc' := 11) (v := (20 : Int32)) hc rfl zkb_20 rfl ?_
  refine g_iadd (pc' := 12)  hc rfl rfl ?_
  refine g_sipush (pc' := 15) (v := (700 : Int32)) hc rfl zks_700 rfl ?_
  refine g_icmp_le (pc' := 18) hc rfl rfl (fun hx => ?_) (fun hx => ?_)
  · replace h := zwp_t h hx
    refine g_aload_n (pc' := 21)  hc rfl rfl rfl rfl ?_
    refine g_iload_n (pc' := 22)  hc rfl rfl rfl ?_
    refine z_virt (as := [.int a1]) (a := 75) (r := []) hc rfl rfl rfl rfl sh_75 rfl zco_160 rfl rfl rfl ?_
    refine ok_X12_lays_75 (zdp hd rfl) (zwp_mono (zwp_bind h) ?_)
    rintro ⟨o1, o2⟩ h
    refine z_po (pc' := 25) (st' := []) (v := none) (L' := [(75, some 0, fun _ => (0 : Int32)), (75, some 15, fun _ => o2), (81, none, o1)]) (K' := []) zco_160 rfl rfl rfl rfl rfl rfl rfl rfl ?_
    refine g_aload_n (pc' := 26)  hc rfl rfl rfl rfl ?_
    refine g_iload_n (pc' := 27)  hc rfl rfl rfl ?_
    refine z_virt (as := [.int a2]) (a := 75) (r := []) hc rfl rfl rfl rfl sh_75 rfl zco_160 rfl rfl rfl ?_
    refine ok_X12_lays_75 (zdp hd rfl) (zwp_mono (zwp_bind h) ?_)
    rintro ⟨o3, o4⟩ h
    refine z_po (pc' := 30) (st' := []) (v := none) (L' := [(75, some 0, fun _ => (0 : Int32)), (75, some 15, fun _ => o4), (81, none, o3)]) (K' := []) zco_160 rfl rfl rfl rfl rfl rfl rfl rfl ?_
    refine g_aload_n (pc' := 31)  hc rfl rfl rfl rfl ?_
    refine g_iload_n (pc' := 32)  hc rfl rfl rfl ?_
    refine z_virt (as := [.int a3]) (a := 75) (r := []) hc rfl rfl rfl rfl sh_75 rfl zco_160 rfl rfl rfl ?_
    refine ok_X12_lays_75 (zdp hd rfl) (zwp_mono (zwp_bind h) ?_)
    rintro ⟨o5, o6⟩ h
    refine z_po (pc' := 35) (st' := []) (v := none) (L' := [(75, some 0, fun _ => (0 : Int32)), (75, some 15, fun _ => o6), (81, none, o5)]) (K' := []) zco_160 rfl rfl rfl rfl rfl rfl rfl rfl ?_
    refine g_aload_n (pc' := 36)  hc rfl rfl rfl rfl ?_
    refine g_iload (pc' := 38)  hc rfl rfl rfl ?_
    refine z_virt (as := [.int a4]) (a := 75) (r := []) hc rfl rfl rfl rfl sh_75 rfl zco_160 rfl rfl rfl ?_
    refine ok_X12_lays_75 (zdp hd rfl) (zwp_mono (zwp_bind h) ?_)
    rintro ⟨o7, o8⟩ h
    refine z_po (pc' := 41) (st' := []) (v := none) (L' := [(75, some 0, fun _ => (0 : Int32)), (75, some 15, fun _ => o8), (81, none, o7)]) (K' := []) zco_160 rfl rfl rfl rfl rfl rfl rfl rfl ?_
    refine g_aload_n (pc' := 42)  hc rfl rfl rfl rfl ?_
    refine g_iload (pc' := 44)  hc rfl rfl rfl ?_
    refine z_virt (as := [.int a5]) (a := 75) (r := []) hc rfl rfl rfl rfl sh_75 rfl zco_160 rfl rfl rfl ?_
    refine ok_X12_lays_75 (zdp hd rfl) (zwp_mono (zwp_bind h) ?_)
    rintro ⟨o9, o10⟩ h
    refine z_po (pc' := 47) (st' := []) (v := none) (L' := [(75, some 0, fun _ => (0 : Int32)), (75, some 15, fun _ => o10), (81, none, o9)]) (K' := []) zco_160 rfl rfl rfl rfl rfl rfl rfl rfl ?_
    refine g_aload_n (pc' := 48)  hc rfl rfl rfl rfl ?_
    refine z_getI (pc' := 51) (v := o10) hc rfl rfl rfl sh_75 rfl rfl rfl ?_
    replace h := zws h
    exact g_ireturn hc rfl rfl rfl (fun _ => ⟨rfl, rfl⟩) h
  · replace h := zwp_f h hx
    refine g_iconst (pc' := 19) (v := (-1 : Int32)) hc rfl zki_m1 rfl ?_
    replace h := zws h
    exact g_ireturn hc rfl rfl rfl (fun _ => ⟨rfl, rfl⟩) h
set_option maxRecDepth 4000 in
theorem ok_X12_right_75 {p q : Nat} {I : pI} {J : pJ} {a1 : Int32} {a2 : Int32} {Q : pQ} {d : Nat} (hd : 1 ≤ d) (h : zwp (f_X12_right a1 a2 (I 75 0)) (fun w => match w with | (r, o0) => Q (.inl (some (.int r))) (zS p q I [(75, some 0, fun _ => o0)] J []))) : pm_call M cost zext d 153 [.ref 75, .int a1, .int a2] (pm_st 108 (shp p q) I J) Q := by
  obtain ⟨d, rfl⟩ := zd1 hd rfl
  have hc := pm_call_m (M := M) (cost := cost) zext_m d
  refine z_in (L := [(75, some 0, fun _ => (I 75 0))]) (K := []) (ls := [some (.ref 75), some (.int a1), some (.int a2)]) zmt_153 zco_153 rfl rfl (zid_s zid_n) zid_n ?_
  delta f_X12_right at h
  refine g_aload_n (pc' := 1)  hc rfl rfl rfl rfl ?_
  refine z_getI (pc' := 4) (v := (I 75 0)) hc rfl rfl rfl sh_75 rfl rfl rfl ?_
  refine zjn (G := (fun (j1 : Int32) => pm_ev C_X12_right (d + 1) (pm_call M cost zext d) cost (false, false) 108 0 0 Q 16 [some (.ref 75), some (.int a1), some (.int a2)] [] 0 0 (zS p q I [(75, some 0, fun _ => j1)] J []))) (zwp_bind h) ?_ (fun h => ?_)
  · rintro j1 h
    refine g_aload_n (pc' := 17)  hc rfl rfl rfl rfl ?_
    refine z_getI (pc' := 20) (v := j1) hc rfl rfl rfl sh_75 rfl rfl rfl ?_
    refine g_if_ne (pc' := 23) hc rfl rfl (fun hx => ?_) (fun hx => ?_)
    · replace h := zwp_f h hx
      refine g_iconst (pc' := 28) (v := (0 : Int32)) hc rfl zki_0 rfl ?_
      replace h := zws h
      exact g_ireturn hc rfl rfl rfl (fun _ => ⟨rfl, rfl⟩) h
    · replace h := zwp_t h hx
      refine g_iconst (pc' := 24) (v := (1 : Int32)) hc rfl zki_1 rfl ?_
      refine g_goto hc rfl ?_
      replace h := zws h
      exact g_ireturn hc rfl rfl rfl (fun _ => ⟨rfl, rfl⟩) h
  refine g_if_ne (pc' := 7) hc rfl rfl (fun hx => ?_) (fun hx => ?_)
  · replace h := zwp_f h hx
    replace h := zws h
    exact h
  · replace h := zwp_t h hx
    refine g_iload_n (pc' := 8)  hc rfl rfl rfl ?_
    refine g_if_ne (pc' := 11) hc rfl rfl (fun hx => ?_) (fun hx => ?_)
    · replace h := zwp_f h hx
      replace h := zws h
      exact h
    · replace h := zwp_t h hx
      refine g_aload_n (pc' := 12)  hc rfl rfl rfl rfl ?_
      refine g_iload_n (pc' := 13)  hc rfl rfl rfl ?_
      refine z_putI (pc' := 16) (L' := [(75, some 0, fun _ => a2)]) hc rfl rfl rfl sh_75 rfl zft_12_0 rfl (fun h => Bool.noConfusion h) rfl rfl rfl ?_
      replace h := zws h
      exact h
set_option maxRecDepth 4000 in
theorem ok_X12_byteAt_75 {p q : Nat} {I : pI} {J : pJ} {a1 : Int32} {Q : pQ} {d : Nat} (hd : 1 ≤ d) (h : zwp (f_X12_byteAt a1 (I 75 19) (I 81)) (fun r => Q (.inl (some (.int r))) (zS p q I [] J []))) : pm_call M cost zext d 161 [.ref 75, .int a1] (pm_st 108 (shp p q) I J) Q := by
  obtain ⟨d, rfl⟩ := zd1 hd rfl
  have hc := pm_call_m (M := M) (cost := cost) zext_m d
  refine z_in (L := []) (K := []) (ls := [some (.ref 75), some (.int a1)]) zmt_161 zco_161 rfl rfl zid_n zid_n ?_
  delta f_X12_byteAt at h
  refine g_iload_n (pc' := 1)  hc rfl rfl rfl ?_
  refine g_aload_n (pc' := 2)  hc rfl rfl rfl rfl ?_
  refine z_getI (pc' := 5) (v := (I 75 19)) hc rfl rfl rfl sh_75 rfl rfl rfl ?_
  refine g_icmp_ge (pc' := 8) hc rfl rfl (fun hx => ?_) (fun hx => ?_)
  · replace h := zwp_t h hx
    refine g_iconst (pc' := 18) (v := (0 : Int32)) hc rfl zki_0 rfl ?_
    replace h := zws h
    exact g_ireturn hc rfl rfl rfl (fun _ => ⟨rfl, rfl⟩) h
  · replace h := zwp_f h hx
    refine g_aload_n (pc' := 9)  hc rfl rfl rfl rfl ?_
    refine z_getR (pc' := 12)  hc rfl rfl rfl sh_75 rfl rfl ?_
    refine g_iload_n (pc' := 13)  hc rfl rfl rfl ?_
    have hb := (zwp_bnd h).1
    replace h := (zwp_bnd h).2
    refine z_iaload (pc' := 14) (v := (((I 81)) a1.toNatClampNeg)) hc rfl rfl sh_81 hb rfl rfl ?_
    refine g_goto hc rfl ?_
    replace h := zws h
    exact g_ireturn hc rfl rfl rfl (fun _ => ⟨rfl, rfl⟩) h
set_option maxRecDepth 4000 in
theorem ok_X12_isLetter {p q : Nat} {I : pI} {J : pJ} {a0 : Int32} {Q : pQ} {d : Nat} (hd : 1 ≤ d) (h : zwp (f_X12_isLetter a0) (fun r => Q (.inl (some (.int r))) (zS p q I [] J []))) : pm_call M cost zext d 162 [.int a0] (pm_st 108 (shp p q) I J) Q := by
  obtain ⟨d, rfl⟩ := zd1 hd rfl
  have hc := pm_call_m (M := M) (cost := cost) zext_m d
  refine z_in (L := []) (K := []) (ls := [some (.int a0)]) zmt_162 zco_162 rfl rfl zid_n zid_n ?_
  delta f_X12_isLetter at h
  refine g_iload_n (pc' := 1)  hc rfl rfl rfl ?_
  refine g_bipush (pc' := 3) (v := (97 : Int32)) hc rfl zkb_97 rfl ?_
  refine g_icmp_lt (pc' := 6) hc rfl rfl (fun hx => ?_) (fun hx => ?_)
  · replace h := zwp_t h hx
    refine g_iconst (pc' := 17) (v := (0 : Int32)) hc rfl zki_0 rfl ?_
    replace h := zws h
    exact g_ireturn hc rfl rfl rfl (fun _ => ⟨rfl, rfl⟩) h
  · replace h := zwp_f h hx
    refine g_iload_n (pc' := 7)  hc rfl rfl rfl ?_
    refine g_bipush (pc' := 9) (v := (122 : Int32)) hc rfl zkb_122 rfl ?_
    refine g_icmp_gt (pc' := 12) hc rfl rfl (fun hx => ?_) (fun hx => ?_)
    · replace h := zwp_t h hx
      refine g_iconst (pc' := 17) (v := (0 : Int32)) hc rfl zki_0 rfl ?_
      replace h := zws h
      exact g_ireturn hc rfl rfl rfl (fun _ => ⟨rfl, rfl⟩) h
    · replace h := zwp_f h hx
      refine g_iconst (pc' := 13) (v := (1 : Int32)) hc rfl zki_1 rfl ?_
      refine g_goto hc rfl ?_
      replace h := zws h
      exact g_ireturn hc rfl rfl rfl (fun _ => ⟨rfl, rfl⟩) h
set_option maxRecDepth 4000 in
theorem ok_X12_isDigit {p q : Nat} {I : pI} {J : pJ} {a0 : Int32} {Q : pQ} {d : Nat} (hd : 1 ≤ d) (h : zwp (f_X12_isDigit a0) (fun r => Q (.inl (some (.int r))) (zS p q I [] J []))) : pm_call M cost zext d 163 [.int a0] (pm_st 108 (shp p q) I J) Q := by
  obtain ⟨d, rfl⟩ := zd1 hd rfl
  have hc := pm_call_m (M := M) (cost := cost) zext_m d
  refine z_in (L := []) (K := []) (ls := [some (.int a0)]) zmt_163 zco_163 rfl rfl zid_n zid_n ?_
  delta f_X12_isDigit at h
  refine g_iload_n (pc' := 1)  hc rfl rfl rfl ?_
  refine g_bipush (pc' := 3) (v := (48 : Int32)) hc rfl zkb_48 rfl ?_
  refine g_icmp_lt (pc' := 6) hc rfl rfl (fun hx => ?_) (fun hx => ?_)
  · replace h := zwp_t h hx
    refine g_iconst (pc' := 17) (v := (0 : Int32)) hc rfl zki_0 rfl ?_
    replace h := zws h
    exact g_ireturn hc rfl rfl rfl (fun _ => ⟨rfl, rfl⟩) h
  · replace h := zwp_f h hx
    refine g_iload_n (pc' := 7)  hc rfl rfl rfl ?_
    refine g_bipush (pc' := 9) (v := (57 : Int32)) hc rfl zkb_57 rfl ?_
    refine g_icmp_gt (pc' := 12) hc rfl rfl (fun hx => ?_) (fun hx => ?_)
    · replace h := zwp_t h hx
      refine g_iconst (pc' := 17) (v := (0 : Int32)) hc rfl zki_0 rfl ?_
      replace h := zws h
      exact g_ireturn hc rfl rfl rfl (fun _ => ⟨rfl, rfl⟩) h
    · replace h := zwp_f h hx
      refine g_iconst (pc' := 13) (v := (1 : Int32)) hc rfl zki_1 rfl ?_
      refine g_goto hc rfl ?_
      replace h := zws h
      exact g_ireturn hc rfl rfl rfl (fun _ => ⟨rfl, rfl⟩) h
set_option maxRecDepth 4000 in
theorem ok_X12_goes_75 {p q : Nat} {I : pI} {J : pJ} {Q : pQ} {d : Nat} (hd : 2 ≤ d) (h : zwp (f_X12_goes (I 75 23) (I 75 19) (I 75 20) (I 75 22) (I 75 25) (I 75 21) (I 81) (I 75 24) (J 75 26)) (fun w => match w with | (o0, o1, o2, o3, o4, o5, o6) => Q (.inl none) (zS p q I [(75, some 20, fun _ => o1), (75, some 21, fun _ => o4), (75, some 22, fun _ => o2), (75, some 23, fun _ => o0), (75, some 24, fun _ => o5), (75, some 25, fun _ => o3)] J [(75, some 26, fun _ => o6)]))) : pm_call M cost zext d 164 [.ref 75] (pm_st 108 (shp p q) I J) Q := by
  obtain ⟨d, rfl⟩ := zd1 hd rfl
  have hc := pm_call_m (M := M) (cost := cost) zext_m d
  refine z_in (L := [(75, some 20, fun _ => (I 75 20)), (75, some 21, fun _ => (I 75 21)), (75, some 22, fun _ => (I 75 22)), (75, some 23, fun _ => (I 75 23)), (75, some 24, fun _ => (I 75 24)), (75, some 25, fun _ => (I 75 25))]) (K := [(75, some 26, fun _ => (J 75 26))]) (ls := [some (.ref 75), none]) zmt_164 zco_164 rfl rfl (zid_s (zid_s (zid_s (zid_s (zid_s (zid_s zid_n)))))) (zid_s zid_n) ?_
  delta f_X12_goes at h
  refine zjn (G := (fun (y2 : Int32) => pm_ev C_X12_goes (d + 1) (pm_call M cost zext d) cost (false, false) 108 0 0 Q 50 [some (.ref 75), none] [] 0 0 (zS p q I [(75, some 20, fun _ => y2), (75, some 21, fun _ => (I 75 21)), (75, some 22, fun _ => (I 75 22)), (75, some 23, fun _ => (I 75 23)), (75, some 24, fun _ => (I 75 24)), (75, some 25, fun _ => (I 75 25))] J [(75, some 26, fun _ => (J 75 26))]))) (zwp_bind h) ?_ (fun h => ?_)
  · rintro y2 h
    refine g_aload_n (pc' := 51)  hc rfl rfl rfl rfl ?_
    refine g_aload_n (pc' := 52)  hc rfl rfl rfl rfl ?_
    refine z_getI (pc' := 55) (v := y2) hc rfl rfl rfl sh_75 rfl rfl rfl ?_
    refine z_putI (pc' := 58) (L' := [(75, some 20, fun _ => y2), (75, some 21, fun _ => (I 75 21)), (75, some 22, fun _ => y2), (75, some 23, fun _ => (I 75 23)), (75, some 24, fun _ => (I 75 24)), (75, some 25, fun _ => (I 75 25))]) hc rfl rfl rfl sh_75 rfl zft_12_22 rfl (fun h => Bool.noConfusion h) rfl rfl rfl ?_
    refine g_aload_n (pc' := 59)  hc rfl rfl rfl rfl ?_
    refine g_lconst (pc' := 60) (v := (0 : Int64)) hc rfl zkl_0 rfl ?_
    refine z_putJ (pc' := 63) (K' := [(75, some 26, fun _ => (0 : Int64))]) hc rfl rfl rfl sh_75 rfl zft_12_26 (fun h => Bool.noConfusion h) rfl rfl rfl ?_
    refine g_aload_n (pc' := 64)  hc rfl rfl rfl rfl ?_
    refine g_iconst (pc' := 65) (v := (0 : Int32)) hc rfl zki_0 rfl ?_
    refine z_putI (pc' := 68) (L' := [(75, some 20, fun _ => y2), (75, some 21, fun _ => (I 75 21)), (75, some 22, fun _ => y2), (75, some 23, fun _ => (I 75 23)), (75, some 24, fun _ => (0 : Int32)), (75, some 25, fun _ => (I 75 25))]) hc rfl rfl rfl sh_75 rfl zft_12_24 rfl (fun h => Bool.noConfusion h) rfl rfl rfl ?_
    refine g_aload_n (pc' := 69)  hc rfl rfl rfl rfl ?_
    refine g_aload_n (pc' := 70)  hc rfl rfl rfl rfl ?_
    refine z_getI (pc' := 73) (v := y2) hc rfl rfl rfl sh_75 rfl rfl rfl ?_
    refine z_virt (as := [.int y2]) (a := 75) (r := []) hc rfl rfl rfl rfl sh_75 rfl zco_161 rfl rfl rfl ?_
    refine ok_X12_byteAt_75 (zdp hd rfl) (zwp_mono (zwp_bind h) ?_)
    rintro r3 h
    refine z_po (pc' := 76) (st' := [.int r3]) (v := (some (.int r3))) (L' := [(75, some 20, fun _ => y2), (75, some 21, fun _ => (I 75 21)), (75, some 22, fun _ => y2), (75, some 23, fun _ => (I 75 23)), (75, some 24, fun _ => (0 : Int32)), (75, some 25, fun _ => (I 75 25))]) (K' := [(75, some 26, fun _ => (0 : Int64))]) zco_161 rfl rfl rfl rfl rfl rfl rfl rfl ?_
    refine g_istore_n (pc' := 77) (ls1 := [some (.ref 75), some (.int r3)]) hc rfl (zlt rfl) rfl rfl ?_
    refine g_aload_n (pc' := 78)  hc rfl rfl rfl rfl ?_
    refine g_iload_n (pc' := 79)  hc rfl rfl rfl ?_
    refine z_putI (pc' := 82) (L' := [(75, some 20, fun _ => y2), (75, some 21, fun _ => (I 75 21)), (75, some 22, fun _ => y2), (75, some 23, fun _ => (I 75 23)), (75, some 24, fun _ => (0 : Int32)), (75, some 25, fun _ => r3)]) hc rfl rfl rfl sh_75 rfl zft_12_25 rfl (fun h => Bool.noConfusion h) rfl rfl rfl ?_
    refine g_aload_n (pc' := 83)  hc rfl rfl rfl rfl ?_
    refine z_getI (pc' := 86) (v := y2) hc rfl rfl rfl sh_75 rfl rfl rfl ?_
    refine g_aload_n (pc' := 87)  hc rfl rfl rfl rfl ?_
    refine z_getI (pc' := 90) (v := (I 75 19)) hc rfl rfl rfl sh_75 rfl rfl rfl ?_
    refine zjn (G := (fun (g : Int32 × Int32 × Int32 × Int64) => match g with | (j4, j5, j6, j7) => pm_ev C_X12_goes (d + 1) (pm_call M cost zext d) cost (false, false) 108 0 0 Q 331 [some (.ref 75), some (.int r3)] [] 0 0 (zS p q I [(75, some 20, fun _ => j4), (75, some 21, fun _ => j5), (75, some 22, fun _ => y2), (75, some 23, fun _ => (I 75 23)), (75, some 24, fun _ => j6), (75, some 25, fun _ => r3)] J [(75, some 26, fun _ => j7)]))) (zwp_bind h) ?_ (fun h => ?_)
    · rintro ⟨j4, j5, j6, j7⟩ h
      refine g_aload_n (pc' := 332)  hc rfl rfl rfl rfl ?_
      refine g_aload_n (pc' := 333)  hc rfl rfl rfl rfl ?_
      refine z_getI (pc' := 336) (v := j4) hc rfl rfl rfl sh_75 rfl rfl rfl ?_
      refine g_aload_n (pc' := 337)  hc rfl rfl rfl rfl ?_
      refine z_getI (pc' := 340) (v := y2) hc rfl rfl rfl sh_75 rfl rfl rfl ?_
      refine g_isub (pc' := 341)  hc rfl rfl ?_
      refine z_putI (pc' := 344) (L' := [(75, some 20, fun _ => j4), (75, some 21, fun _ => j5), (75, some 22, fun _ => y2), (75, some 23, fun _ => (j4 - y2)), (75, some 24, fun _ => j6), (75, some 25, fun _ => r3)]) hc rfl rfl rfl sh_75 rfl zft_12_23 rfl (fun h => Bool.noConfusion h) rfl rfl rfl ?_
      replace h := zws h
      exact g_return hc rfl rfl (fun _ => ⟨rfl, rfl⟩) h
    refine g_icmp_lt (pc' := 93) hc rfl rfl (fun hx => ?_) (fun hx => ?_)
    · replace h := zwp_t h hx
      refine g_iload_n (pc' := 102)  hc rfl rfl rfl ?_
      refine z_stat (as := [.int r3]) (r := []) hc rfl rfl rfl rfl zco_162 rfl rfl rfl ?_
      refine ok_X12_isLetter (zdp hd rfl) (zwp_mono (zwp_bind h) ?_)
      rintro r8 h
      refine z_po (pc' := 105) (st' := [.int r8]) (v := (some (.int r8))) (L' := [(75, some 20, fun _ => y2), (75, some 21, fun _ => (I 75 21)), (75, some 22, fun _ => y2), (75, some 23, fun _ => (I 75 23)), (75, some 24, fun _ => (0 : Int32)), (75, some 25, fun _ => r3)]) (K' := [(75, some 26, fun _ => (0 : Int64))]) zco_162 rfl rfl rfl rfl rfl rfl rfl rfl ?_
      refine g_if_eq (pc' := 108) hc rfl rfl (fun hx => ?_) (fun hx => ?_)
      · replace h := zwp_t h hx
        refine g_iload_n (pc' := 181)  hc rfl rfl rfl ?_
        refine z_stat (as := [.int r3]) (r := []) hc rfl rfl rfl rfl zco_163 rfl rfl rfl ?_
        refine ok_X12_isDigit (zdp hd rfl) (zwp_mono (zwp_bind h) ?_)
        rintro r9 h
        refine z_po (pc' := 184) (st' := [.int r9]) (v := (some (.int r9))) (L' := [(75, some 20, fun _ => y2), (75, some 21, fun _ => (I 75 21)), (75, some 22, fun _ => y2), (75, some 23, fun _ => (I 75 23)), (75, some 24, fun _ => (0 : Int32)), (75, some 25, fun _ => r3)]) (K' := [(75, some 26, fun _ => (0 : Int64))]) zco_163 rfl rfl rfl rfl rfl rfl rfl rfl ?_
        refine g_if_eq (pc' := 187) hc rfl rfl (fun hx => ?_) (fun hx => ?_)
        · replace h := zwp_t h hx
          refine g_aload_n (pc' := 259)  hc rfl rfl rfl rfl ?_
          refine g_dup (pc' := 260)  hc rfl rfl rfl ?_
          refine z_getI (pc' := 263) (v := y2) hc rfl rfl rfl sh_75 rfl rfl rfl ?_
          refine g_iconst (pc' := 264) (v := (1 : Int32)) hc rfl zki_1 rfl ?_
          refine g_iadd (pc' := 265)  hc rfl rfl ?_
          refine z_putI (pc' := 268) (L' := [(75, some 20, fun _ => (y2 + (1 : Int32))), (75, some 21, fun _ => (I 75 21)), (75, some 22, fun _ => y2), (75, some 23, fun _ => (I 75 23)), (75, some 24, fun _ => (0 : Int32)), (75, some 25, fun _ => r3)]) hc rfl rfl rfl sh_75 rfl zft_12_20 rfl (fun h => Bool.noConfusion h) rfl rfl rfl ?_
          refine g_aload_n (pc' := 269)  hc rfl rfl rfl rfl ?_
          refine g_iload_n (pc' := 270)  hc rfl rfl rfl ?_
          refine g_bipush (pc' := 272) (v := (59 : Int32)) hc rfl zkb_59 rfl ?_
          refine zjn (G := (fun (j10 : Int32) => pm_ev C_X12_goes (d + 1) (pm_call M cost zext d) cost (false, false) 108 0 0 Q 328 [some (.ref 75), some (.int r3)] [.int j10, .ref 75] 0 0 (zS p q I [(75, some 20, fun _ => (y2 + (1 : Int32))), (75, some 21, fun _ => (I 75 21)), (75, some 22, fun _ => y2), (75, some 23, fun _ => (I 75 23)), (75, some 24, fun _ => (0 : Int32)), (75, some 25, fun _ => r3)] J [(75, some 26, fun _ => (0 : Int64))]))) (zwp_bind h) ?_ (fun h => ?_)
          · rintro j10 h
            refine z_putI (pc' := 331) (L' := [(75, some 20, fun _ => (y2 + (1 : Int32))), (75, some 21, fun _ => j10), (75, some 22, fun _ => y2), (75, some 23, fun _ => (I 75 23)), (75, some 24, fun _ => (0 : Int32)), (75, some 25, fun _ => r3)]) hc rfl rfl rfl sh_75 rfl zft_12_21 rfl (fun h => Bool.noConfusion h) rfl rfl rfl ?_
            replace h := zws h
            exact h
          refine g_icmp_eq (pc' := 275) hc rfl rfl (fun hx => ?_) (fun hx => ?_)
          · replace h := zwp_t h hx
            refine g_iconst (pc' := 324) (v := (3 : Int32)) hc rfl zki_3 rfl ?_
            refine g_goto hc rfl ?_
            replace h := zws h
            exact h
          · replace h := zwp_f h hx
            refine g_iload_n (pc' := 276)  hc rfl rfl rfl ?_
            refine g_bipush (pc' := 278) (v := (40 : Int32)) hc rfl zkb_40 rfl ?_
            refine g_icmp_eq (pc' := 281) hc rfl rfl (fun hx => ?_) (fun hx => ?_)
            · replace h := zwp_t h hx
              refine g_iconst (pc' := 324) (v := (3 : Int32)) hc rfl zki_3 rfl ?_
              refine g_goto hc rfl ?_
              replace h := zws h
              exact h
            · replace h := zwp_f h hx
              refine g_iload_n (pc' := 282)  hc rfl rfl rfl ?_
              refine g_bipush (pc' := 284) (v := (41 : Int32)) hc rfl zkb_41 rfl ?_
              refine g_icmp_eq (pc' := 287) hc rfl rfl (fun hx => ?_) (fun hx => ?_)
              · replace h := zwp_t h hx
                refine g_iconst (pc' := 324) (v := (3 : Int32)) hc rfl zki_3 rfl ?_
                refine g_goto hc rfl ?_
                replace h := zws h
                exact h
              · replace h := zwp_f h hx
                refine g_iload_n (pc' := 288)  hc rfl rfl rfl ?_
                refine g_bipush (pc' := 290) (v := (43 : Int32)) hc rfl zkb_43 rfl ?_
                refine g_icmp_eq (pc' := 293) hc rfl rfl (fun hx => ?_) (fun hx => ?_)
                · replace h := zwp_t h hx
                  refine g_iconst (pc' := 324) (v := (3 : Int32)) hc rfl zki_3 rfl ?_
                  refine g_goto hc rfl ?_
                  replace h := zws h
                  exact h
                · replace h := zwp_f h hx
                  refine g_iload_n (pc' := 294)  hc rfl rfl rfl ?_
                  refine g_bipush (pc' := 296) (v := (45 : Int32)) hc rfl zkb_45 rfl ?_
                  refine g_icmp_eq (pc' := 299) hc rfl rfl (fun hx => ?_) (fun hx => ?_)
                  · replace h := zwp_t h hx
                    refine g_iconst (pc' := 324) (v := (3 : Int32)) hc rfl zki_3 rfl ?_
                    refine g_goto hc rfl ?_
                    replace h := zws h
                    exact h
                  · replace h := zwp_f h hx
                    refine g_iload_n (pc' := 300)  hc rfl rfl rfl ?_
                    refine g_bipush (pc' := 302) (v := (42 : Int32)) hc rfl zkb_42 rfl ?_
                    refine g_icmp_eq (pc' := 305) hc rfl rfl (fun hx => ?_) (fun hx => ?_)
                    · replace h := zwp_t h hx
                      refine g_iconst (pc' := 324) (v := (3 : Int32)) hc rfl zki_3 rfl ?_
                      refine g_goto hc rfl ?_
                      replace h := zws h
                      exact h
                    · replace h := zwp_f h hx
                      refine g_iload_n (pc' := 306)  hc rfl rfl rfl ?_
                      refine g_bipush (pc' := 308) (v := (47 : Int32)) hc rfl zkb_47 rfl ?_
                      refine g_icmp_eq (pc' := 311) hc rfl rfl (fun hx => ?_) (fun hx => ?_)
                      · replace h := zwp_t h hx
                        refine g_iconst (pc' := 324) (v := (3 : Int32)) hc rfl zki_3 rfl ?_
                        refine g_goto hc rfl ?_
                        replace h := zws h
                        exact h
                      · replace h := zwp_f h hx
                        refine g_iload_n (pc' := 312)  hc rfl rfl rfl ?_
                        refine g_bipush (pc' := 314) (v := (60 : Int32)) hc rfl zkb_60 rfl ?_
                        refine g_icmp_eq (pc' := 317) hc rfl rfl (fun hx => ?_) (fun hx => ?_)
                        · replace h := zwp_t h hx
                          refine g_iconst (pc' := 324) (v := (3 : Int32)) hc rfl zki_3 rfl ?_
                          refine g_goto hc rfl ?_
                          replace h := zws h
                          exact h
                        · replace h := zwp_f h hx
                          refine g_iload_n (pc' := 318)  hc rfl rfl rfl ?_
                          refine g_bipush (pc' := 320) (v := (61 : Int32)) hc rfl zkb_61 rfl ?_
                          refine g_icmp_ne (pc' := 323) hc rfl rfl (fun hx => ?_) (fun hx => ?_)
                          · replace h := zwp_f h hx
                            refine g_iconst (pc' := 328) (v := (4 : Int32)) hc rfl zki_4 rfl ?_
                            replace h := zws h
                            exact h
                          · replace h := zwp_t h hx
                            refine g_iconst (pc' := 324) (v := (3 : Int32)) hc rfl zki_3 rfl ?_
                            refine g_goto hc rfl ?_
                            replace h := zws h
                            exact h
        · replace h := zwp_f h hx
          refine zjn (G := (fun (g : Int32 × Int32) => match g with | (y13, y14) => pm_ev C_X12_goes (d + 1) (pm_call M cost zext d) cost (false, false) 108 0 0 Q 250 [some (.ref 75), some (.int r3)] [] 0 0 (zS p q I [(75, some 20, fun _ => y13), (75, some 21, fun _ => (I 75 21)), (75, some 22, fun _ => y2), (75, some 23, fun _ => (I 75 23)), (75, some 24, fun _ => y14), (75, some 25, fun _ => r3)] J [(75, some 26, fun _ => (0 : Int64))]))) (zwp_bind h) ?_ (fun h => ?_)
          · rintro ⟨y13, y14⟩ h
            refine g_aload_n (pc' := 251)  hc rfl rfl rfl rfl ?_
            refine g_iconst (pc' := 252) (v := (2 : Int32)) hc rfl zki_2 rfl ?_
            refine z_putI (pc' := 255) (L' := [(75, some 20, fun _ => y13), (75, some 21, fun _ => (2 : Int32)), (75, some 22, fun _ => y2), (75, some 23, fun _ => (I 75 23)), (75, some 24, fun _ => y14), (75, some 25, fun _ => r3)]) hc rfl rfl rfl sh_75 rfl zft_12_21 rfl (fun h => Bool.noConfusion h) rfl rfl rfl ?_
            refine g_goto hc rfl ?_
            replace h := zws h
            exact h
          refine zitr_ev (G := (fun (g : Int32 × Int32) => match g with | (x11, x12) => pm_ev C_X12_goes (d + 1) (pm_call M cost zext d) cost (false, false) 108 0 0 Q 187 [some (.ref 75), some (.int r3)] [] 0 0 (zS p q I [(75, some 20, fun _ => x11), (75, some 21, fun _ => (I 75 21)), (75, some 22, fun _ => y2), (75, some 23, fun _ => (I 75 23)), (75, some 24, fun _ => x12), (75, some 25, fun _ => r3)] J [(75, some 26, fun _ => (0 : Int64))]))) ?_ zFU (y2, (0 : Int32)) h
          rintro ⟨x11, x12⟩ h
          refine g_aload_n (pc' := 188)  hc rfl rfl rfl rfl ?_
          refine g_aload_n (pc' := 189)  hc rfl rfl rfl rfl ?_
          refine z_getI (pc' := 192) (v := x11) hc rfl rfl rfl sh_75 rfl rfl rfl ?_
          refine z_virt (as := [.int x11]) (a := 75) (r := []) hc rfl rfl rfl rfl sh_75 rfl zco_161 rfl rfl rfl ?_
          refine ok_X12_byteAt_75 (zdp hd rfl) (zwp_mono (zwp_bind h) ?_)
          rintro r15 h
          refine z_po (pc' := 195) (st' := [.int r15]) (v := (some (.int r15))) (L' := [(75, some 20, fun _ => x11), (75, some 21, fun _ => (I 75 21)), (75, some 22, fun _ => y2), (75, some 23, fun _ => (I 75 23)), (75, some 24, fun _ => x12), (75, some 25, fun _ => r3)]) (K' := [(75, some 26, fun _ => (0 : Int64))]) zco_161 rfl rfl rfl rfl rfl rfl rfl rfl ?_
          refine z_stat (as := [.int r15]) (r := []) hc rfl rfl rfl rfl zco_163 rfl rfl rfl ?_
          refine ok_X12_isDigit (zdp hd rfl) (zwp_mono (zwp_bind h) ?_)
          rintro r16 h
          refine z_po (pc' := 198) (st' := [.int r16]) (v := (some (.int r16))) (L' := [(75, some 20, fun _ => x11), (75, some 21, fun _ => (I 75 21)), (75, some 22, fun _ => y2), (75, some 23, fun _ => (I 75 23)), (75, some 24, fun _ => x12), (75, some 25, fun _ => r3)]) (K' := [(75, some 26, fun _ => (0 : Int64))]) zco_163 rfl rfl rfl rfl rfl rfl rfl rfl ?_
          refine g_if_eq (pc' := 201) hc rfl rfl (fun hx => ?_) (fun hx => ?_)
          · replace h := zwp_t h hx
            replace h := zwp_r h
            exact h
          · replace h := zwp_f h hx
            refine g_aload_n (pc' := 202)  hc rfl rfl rfl rfl ?_
            refine z_getI (pc' := 205) (v := x11) hc rfl rfl rfl sh_75 rfl rfl rfl ?_
            refine g_aload_n (pc' := 206)  hc rfl rfl rfl rfl ?_
            refine z_getI (pc' := 209) (v := y2) hc rfl rfl rfl sh_75 rfl rfl rfl ?_
            refine g_isub (pc' := 210)  hc rfl rfl ?_
            refine g_iconst (pc' := 211) (v := (4 : Int32)) hc rfl zki_4 rfl ?_
            refine zjn (G := (fun (j17 : Int32) => pm_ev C_X12_goes (d + 1) (pm_call M cost zext d) cost (false, false) 108 0 0 Q 237 [some (.ref 75), some (.int r3)] [] 0 0 (zS p q I [(75, some 20, fun _ => x11), (75, some 21, fun _ => (I 75 21)), (75, some 22, fun _ => y2), (75, some 23, fun _ => (I 75 23)), (75, some 24, fun _ => j17), (75, some 25, fun _ => r3)] J [(75, some 26, fun _ => (0 : Int64))]))) (zwp_bind h) ?_ (fun h => ?_)
            · rintro j17 h
              refine g_aload_n (pc' := 238)  hc rfl rfl rfl rfl ?_
              refine g_dup (pc' := 239)  hc rfl rfl rfl ?_
              refine z_getI (pc' := 242) (v := x11) hc rfl rfl rfl sh_75 rfl rfl rfl ?_
              refine g_iconst (pc' := 243) (v := (1 : Int32)) hc rfl zki_1 rfl ?_
              refine g_iadd (pc' := 244)  hc rfl rfl ?_
              refine z_putI (pc' := 247) (L' := [(75, some 20, fun _ => (x11 + (1 : Int32))), (75, some 21, fun _ => (I 75 21)), (75, some 22, fun _ => y2), (75, some 23, fun _ => (I 75 23)), (75, some 24, fun _ => j17), (75, some 25, fun _ => r3)]) hc rfl rfl rfl sh_75 rfl zft_12_20 rfl (fun h => Bool.noConfusion h) rfl rfl rfl ?_
              refine g_goto hc rfl ?_
              replace h := zwp_l h
              exact h
            refine g_icmp_ge (pc' := 214) hc rfl rfl (fun hx => ?_) (fun hx => ?_)
            · replace h := zwp_t h hx
              replace h := zws h
              exact h
            · replace h := zwp_f h hx
              refine g_aload_n (pc' := 215)  hc rfl rfl rfl rfl ?_
              refine g_bipush (pc' := 217) (v := (10 : Int32)) hc rfl zkb_10 rfl ?_
              refine g_aload_n (pc' := 218)  hc rfl rfl rfl rfl ?_
              refine z_getI (pc' := 221) (v := x12) hc rfl rfl rfl sh_75 rfl rfl rfl ?_
              refine g_imul (pc' := 222)  hc rfl rfl ?_
              refine g_aload_n (pc' := 223)  hc rfl rfl rfl rfl ?_
              refine g_aload_n (pc' := 224)  hc rfl rfl rfl rfl ?_
              refine z_getI (pc' := 227) (v := x11) hc rfl rfl rfl sh_75 rfl rfl rfl ?_
              refine z_virt (as := [.int x11]) (a := 75) (r := [.int ((10 : Int32) * x12), .ref 75]) hc rfl rfl rfl rfl sh_75 rfl zco_161 rfl rfl rfl ?_
              refine ok_X12_byteAt_75 (zdp hd rfl) (zwp_mono (zwp_bind h) ?_)
              rintro r18 h
              refine z_po (pc' := 230) (st' := [.int r18, .int ((10 : Int32) * x12), .ref 75]) (v := (some (.int r18))) (L' := [(75, some 20, fun _ => x11), (75, some 21, fun _ => (I 75 21)), (75, some 22, fun _ => y2), (75, some 23, fun _ => (I 75 23)), (75, some 24, fun _ => x12), (75, some 25, fun _ => r3)]) (K' := [(75, some 26, fun _ => (0 : Int64))]) zco_161 rfl rfl rfl rfl rfl rfl rfl rfl ?_
              refine g_iadd (pc' := 231)  hc rfl rfl ?_
              refine g_bipush (pc' := 233) (v := (48 : Int32)) hc rfl zkb_48 rfl ?_
              refine g_isub (pc' := 234)  hc rfl rfl ?_
              refine z_putI (pc' := 237) (L' := [(75, some 20, fun _ => x11), (75, some 21, fun _ => (I 75 21)), (75, some 22, fun _ => y2), (75, some 23, fun _ => (I 75 23)), (75, some 24, fun _ => ((((10 : Int32) * x12) + r18) - (48 : Int32))), (75, some 25, fun _ => r3)]) hc rfl rfl rfl sh_75 rfl zft_12_24 rfl (fun h => Bool.noConfusion h) rfl rfl rfl ?_
              replace h := zws h
              exact h
      · replace h := zwp_f h hx
        refine zjn (G := (fun (g : Int32 × Int64) => match g with | (y21, y22) => pm_ev C_X12_goes (d + 1) (pm_call M cost zext d) cost (false, false) 108 0 0 Q 172 [some (.ref 75), some (.int r3)] [] 0 0 (zS p q I [(75, some 20, fun _ => y21), (75, some 21, fun _ => (I 75 21)), (75, some 22, fun _ => y2), (75, some 23, fun _ => (I 75 23)), (75, some 24, fun _ => (0 : Int32)), (75, some 25, fun _ => r3)] J [(75, some 26, fun _ => y22)]))) (zwp_bind h) ?_ (fun h => ?_)
        · rintro ⟨y21, y22⟩ h
          refine g_aload_n (pc' := 173)  hc rfl rfl rfl rfl ?_
          refine g_iconst (pc' := 174) (v := (1 : Int32)) hc rfl zki_1 rfl ?_
          refine z_putI (pc' := 177) (L' := [(75, some 20, fun _ => y21), (75, some 21, fun _ => (1 : Int32)), (75, some 22, fun _ => y2), (75, some 23, fun _ => (I 75 23)), (75, some 24, fun _ => (0 : Int32)), (75, some 25, fun _ => r3)]) hc rfl rfl rfl sh_75 rfl zft_12_21 rfl (fun h => Bool.noConfusion h) rfl rfl rfl ?_
          refine g_goto hc rfl ?_
          replace h := zws h
          exact h
        refine zitr_ev (G := (fun (g : Int32 × Int64) => match g with | (x19, x20) => pm_ev C_X12_goes (d + 1) (pm_call M cost zext d) cost (false, false) 108 0 0 Q 108 [some (.ref 75), some (.int r3)] [] 0 0 (zS p q I [(75, some 20, fun _ => x19), (75, some 21, fun _ => (I 75 21)), (75, some 22, fun _ => y2), (75, some 23, fun _ => (I 75 23)), (75, some 24, fun _ => (0 : Int32)), (75, some 25, fun _ => r3)] J [(75, some 26, fun _ => x20)]))) ?_ zFU (y2, (0 : Int64)) h
        rintro ⟨x19, x20⟩ h
        refine g_aload_n (pc' := 109)  hc rfl rfl rfl rfl ?_
        refine g_aload_n (pc' := 110)  hc rfl rfl rfl rfl ?_
        refine z_getI (pc' := 113) (v := x19) hc rfl rfl rfl sh_75 rfl rfl rfl ?_
        refine z_virt (as := [.int x19]) (a := 75) (r := []) hc rfl rfl rfl rfl sh_75 rfl zco_161 rfl rfl rfl ?_
        refine ok_X12_byteAt_75 (zdp hd rfl) (zwp_mono (zwp_bind h) ?_)
        rintro r23 h
        refine z_po (pc' := 116) (st' := [.int r23]) (v := (some (.int r23))) (L' := [(75, some 20, fun _ => x19), (75, some 21, fun _ => (I 75 21)), (75, some 22, fun _ => y2), (75, some 23, fun _ => (I 75 23)), (75, some 24, fun _ => (0 : Int32)), (75, some 25, fun _ => r3)]) (K' := [(75, some 26, fun _ => x20)]) zco_161 rfl rfl rfl rfl rfl rfl rfl rfl ?_
        refine z_stat (as := [.int r23]) (r := []) hc rfl rfl rfl rfl zco_162 rfl rfl rfl ?_
        refine ok_X12_isLetter (zdp hd rfl) (zwp_mono (zwp_bind h) ?_)
        rintro r24 h
        refine z_po (pc' := 119) (st' := [.int r24]) (v := (some (.int r24))) (L' := [(75, some 20, fun _ => x19), (75, some 21, fun _ => (I 75 21)), (75, some 22, fun _ => y2), (75, some 23, fun _ => (I 75 23)), (75, some 24, fun _ => (0 : Int32)), (75, some 25, fun _ => r3)]) (K' := [(75, some 26, fun _ => x20)]) zco_162 rfl rfl rfl rfl rfl rfl rfl rfl ?_
        refine g_if_eq (pc' := 122) hc rfl rfl (fun hx => ?_) (fun hx => ?_)
        · replace h := zwp_t h hx
          replace h := zwp_r h
          exact h
        · replace h := zwp_f h hx
          refine g_aload_n (pc' := 123)  hc rfl rfl rfl rfl ?_
          refine z_getI (pc' := 126) (v := x19) hc rfl rfl rfl sh_75 rfl rfl rfl ?_
          refine g_aload_n (pc' := 127)  hc rfl rfl rfl rfl ?_
          refine z_getI (pc' := 130) (v := y2) hc rfl rfl rfl sh_75 rfl rfl rfl ?_
          refine g_isub (pc' := 131)  hc rfl rfl ?_
          refine g_bipush (pc' := 133) (v := (6 : Int32)) hc rfl zkb_6 rfl ?_
          refine zjn (G := (fun (j25 : Int64) => pm_ev C_X12_goes (d + 1) (pm_call M cost zext d) cost (false, false) 108 0 0 Q 159 [some (.ref 75), some (.int r3)] [] 0 0 (zS p q I [(75, some 20, fun _ => x19), (75, some 21, fun _ => (I 75 21)), (75, some 22, fun _ => y2), (75, some 23, fun _ => (I 75 23)), (75, some 24, fun _ => (0 : Int32)), (75, some 25, fun _ => r3)] J [(75, some 26, fun _ => j25)]))) (zwp_bind h) ?_ (fun h => ?_)
          · rintro j25 h
            refine g_aload_n (pc' := 160)  hc rfl rfl rfl rfl ?_
            refine g_dup (pc' := 161)  hc rfl rfl rfl ?_
            refine z_getI (pc' := 164) (v := x19) hc rfl rfl rfl sh_75 rfl rfl rfl ?_
            refine g_iconst (pc' := 165) (v := (1 : Int32)) hc rfl zki_1 rfl ?_
            refine g_iadd (pc' := 166)  hc rfl rfl ?_
            refine z_putI (pc' := 169) (L' := [(75, some 20, fun _ => (x19 + (1 : Int32))), (75, some 21, fun _ => (I 75 21)), (75, some 22, fun _ => y2), (75, some 23, fun _ => (I 75 23)), (75, some 24, fun _ => (0 : Int32)), (75, some 25, fun _ => r3)]) hc rfl rfl rfl sh_75 rfl zft_12_20 rfl (fun h => Bool.noConfusion h) rfl rfl rfl ?_
            refine g_goto hc rfl ?_
            replace h := zwp_l h
            exact h
          refine g_icmp_ge (pc' := 136) hc rfl rfl (fun hx => ?_) (fun hx => ?_)
          · replace h := zwp_t h hx
            replace h := zws h
            exact h
          · replace h := zwp_f h hx
            refine g_aload_n (pc' := 137)  hc rfl rfl rfl rfl ?_
            refine g_aload_n (pc' := 138)  hc rfl rfl rfl rfl ?_
            refine z_getJ (pc' := 141) (v := x20) hc rfl rfl rfl sh_75 rfl rfl rfl ?_
            refine g_iconst (pc' := 142) (v := (5 : Int32)) hc rfl zki_5 rfl ?_
            refine g_lshl (pc' := 143)  hc rfl rfl ?_
            refine g_aload_n (pc' := 144)  hc rfl rfl rfl rfl ?_
            refine g_aload_n (pc' := 145)  hc rfl rfl rfl rfl ?_
            refine z_getI (pc' := 148) (v := x19) hc rfl rfl rfl sh_75 rfl rfl rfl ?_
            refine z_virt (as := [.int x19]) (a := 75) (r := [.long (x20 <<< ((5 : Int32).toInt64 &&& 63)), .ref 75]) hc rfl rfl rfl rfl sh_75 rfl zco_161 rfl rfl rfl ?_
            refine ok_X12_byteAt_75 (zdp hd rfl) (zwp_mono (zwp_bind h) ?_)
            rintro r26 h
            refine z_po (pc' := 151) (st' := [.int r26, .long (x20 <<< ((5 : Int32).toInt64 &&& 63)), .ref 75]) (v := (some (.int r26))) (L' := [(75, some 20, fun _ => x19), (75, some 21, fun _ => (I 75 21)), (75, some 22, fun _ => y2), (75, some 23, fun _ => (I 75 23)), (75, some 24, fun _ => (0 : Int32)), (75, some 25, fun _ => r3)]) (K' := [(75, some 26, fun _ => x20)]) zco_161 rfl rfl rfl rfl rfl rfl rfl rfl ?_
            refine g_bipush (pc' := 153) (v := (96 : Int32)) hc rfl zkb_96 rfl ?_
            refine g_isub (pc' := 154)  hc rfl rfl ?_
            refine g_i2l (pc' := 155)  hc rfl rfl ?_
            refine g_lor (pc' := 156)  hc rfl rfl ?_
            refine z_putJ (pc' := 159) (K' := [(75, some 26, fun _ => ((x20 <<< ((5 : Int32).toInt64 &&& 63)) ||| ((r26 - (96 : Int32)).toInt64)))]) hc rfl rfl rfl sh_75 rfl zft_12_26 (fun h => Bool.noConfusion h) rfl rfl rfl ?_
            replace h := zws h
            exact h
    · replace h := zwp_f h hx
      refine g_aload_n (pc' := 94)  hc rfl rfl rfl rfl ?_
      refine g_iconst (pc' := 95) (v := (0 : Int32)) hc rfl zki_0 rfl ?_
      refine z_putI (pc' := 98) (L' := [(75, some 20, fun _ => y2), (75, some 21, fun _ => (0 : Int32)), (75, some 22, fun _ => y2), (75, some 23, fun _ => (I 75 23)), (75, some 24, fun _ => (0 : Int32)), (75, some 25, fun _ => r3)]) hc rfl rfl rfl sh_75 rfl zft_12_21 rfl (fun h => Bool.noConfusion h) rfl rfl rfl ?_
      refine g_goto hc rfl ?_
      replace h := zws h
      exact h
  refine zitr_ev (G := (fun (x1 : Int32) => pm_ev C_X12_goes (d + 1) (pm_call M cost zext d) cost (false, false) 108 0 0 Q 0 [some (.ref 75), none] [] 0 0 (zS p q I [(75, some 20, fun _ => x1), (75, some 21, fun _ => (I 75 21)), (75, some 22, fun _ => (I 75 22)), (75, some 23, fun _ => (I 75 23)), (75, some 24, fun _ => (I 75 24)), (75, some 25, fun _ => (I 75 25))] J [(75, some 26, fun _ => (J 75 26))]))) ?_ zFU ((I 75 20)) h
  rintro x1 h
  refine g_aload_n (pc' := 1)  hc rfl rfl rfl rfl ?_
  refine z_getI (pc' := 4) (v := x1) hc rfl rfl rfl sh_75 rfl rfl rfl ?_
  refine g_aload_n (pc' := 5)  hc rfl rfl rfl rfl ?_
  refine z_getI (pc' := 8) (v := (I 75 19)) hc rfl rfl rfl sh_75 rfl rfl rfl ?_
  refine g_icmp_ge (pc' := 11) hc rfl rfl (fun hx => ?_) (fun hx => ?_)
  · replace h := zwp_t h hx
    replace h := zwp_r h
    exact h
  · replace h := zwp_f h hx
    refine g_aload_n (pc' := 12)  hc rfl rfl rfl rfl ?_
    refine g_aload_n (pc' := 13)  hc rfl rfl rfl rfl ?_
    refine z_getI (pc' := 16) (v := x1) hc rfl rfl rfl sh_75 rfl rfl rfl ?_
    refine z_virt (as := [.int x1]) (a := 75) (r := []) hc rfl rfl rfl rfl sh_75 rfl zco_161 rfl rfl rfl ?_
    refine ok_X12_byteAt_75 (zdp hd rfl) (zwp_mono (zwp_bind h) ?_)
    rintro r27 h
    refine z_po (pc' := 19) (st' := [.int r27]) (v := (some (.int r27))) (L' := [(75, some 20, fun _ => x1), (75, some 21, fun _ => (I 75 21)), (75, some 22, fun _ => (I 75 22)), (75, some 23, fun _ => (I 75 23)), (75, some 24, fun _ => (I 75 24)), (75, some 25, fun _ => (I 75 25))]) (K' := [(75, some 26, fun _ => (J 75 26))]) zco_161 rfl rfl rfl rfl rfl rfl rfl rfl ?_
    refine g_bipush (pc' := 21) (v := (32 : Int32)) hc rfl zkb_32 rfl ?_
    refine g_icmp_eq (pc' := 24) hc rfl rfl (fun hx => ?_) (fun hx => ?_)
    · replace h := zwp_t h hx
      refine g_aload_n (pc' := 38)  hc rfl rfl rfl rfl ?_
      refine g_dup (pc' := 39)  hc rfl rfl rfl ?_
      refine z_getI (pc' := 42) (v := x1) hc rfl rfl rfl sh_75 rfl rfl rfl ?_
      refine g_iconst (pc' := 43) (v := (1 : Int32)) hc rfl zki_1 rfl ?_
      refine g_iadd (pc' := 44)  hc rfl rfl ?_
      refine z_putI (pc' := 47) (L' := [(75, some 20, fun _ => (x1 + (1 : Int32))), (75, some 21, fun _ => (I 75 21)), (75, some 22, fun _ => (I 75 22)), (75, some 23, fun _ => (I 75 23)), (75, some 24, fun _ => (I 75 24)), (75, some 25, fun _ => (I 75 25))]) hc rfl rfl rfl sh_75 rfl zft_12_20 rfl (fun h => Bool.noConfusion h) rfl rfl rfl ?_
      refine g_goto hc rfl ?_
      replace h := zwp_l h
      exact h
    · replace h := zwp_f h hx
      refine g_aload_n (pc' := 25)  hc rfl rfl rfl rfl ?_
      refine g_aload_n (pc' := 26)  hc rfl rfl rfl rfl ?_
      refine z_getI (pc' := 29) (v := x1) hc rfl rfl rfl sh_75 rfl rfl rfl ?_
      refine z_virt (as := [.int x1]) (a := 75) (r := []) hc rfl rfl rfl rfl sh_75 rfl zco_161 rfl rfl rfl ?_
      refine ok_X12_byteAt_75 (zdp hd rfl) (zwp_mono (zwp_bind h) ?_)
      rintro r28 h
      refine z_po (pc' := 32) (st' := [.int r28]) (v := (some (.int r28))) (L' := [(75, some 20, fun _ => x1), (75, some 21, fun _ => (I 75 21)), (75, some 22, fun _ => (I 75 22)), (75, some 23, fun _ => (I 75 23)), (75, some 24, fun _ => (I 75 24)), (75, some 25, fun _ => (I 75 25))]) (K' := [(75, some 26, fun _ => (J 75 26))]) zco_161 rfl rfl rfl rfl rfl rfl rfl rfl ?_
      refine g_bipush (pc' := 34) (v := (10 : Int32)) hc rfl zkb_10 rfl ?_
      refine g_icmp_ne (pc' := 37) hc rfl rfl (fun hx => ?_) (fun hx => ?_)
      · replace h := zwp_f h hx
        replace h := zwp_r h
        exact h
      · replace h := zwp_t h hx
        refine g_aload_n (pc' := 38)  hc rfl rfl rfl rfl ?_
        refine g_dup (pc' := 39)  hc rfl rfl rfl ?_
        refine z_getI (pc' := 42) (v := x1) hc rfl rfl rfl sh_75 rfl rfl rfl ?_
        refine g_iconst (pc' := 43) (v := (1 : Int32)) hc rfl zki_1 rfl ?_
        refine g_iadd (pc' := 44)  hc rfl rfl ?_
        refine z_putI (pc' := 47) (L' := [(75, some 20, fun _ => (x1 + (1 : Int32))), (75, some 21, fun _ => (I 75 21)), (75, some 22, fun _ => (I 75 22)), (75, some 23, fun _ => (I 75 23)), (75, some 24, fun _ => (I 75 24)), (75, some 25, fun _ => (I 75 25))]) hc rfl rfl rfl sh_75 rfl zft_12_20 rfl (fun h => Bool.noConfusion h) rfl rfl rfl ?_
        refine g_goto hc rfl ?_
        replace h := zwp_l h
        exact h
set_option maxRecDepth 4000 in
theorem ok_X12_spelled {p q : Nat} {I : pI} {J : pJ} {a0 : Int32} {a1 : Int32} {a2 : Int32} {a3 : Int32} {a4 : Int32} {a5 : Int32} {Q : pQ} {d : Nat} (hd : 1 ≤ d) (h : zwp (f_X12_spelled a0 a1 a2 a3 a4 a5) (fun r => Q (.inl (some (.long r))) (zS p q I [] J []))) : pm_call M cost zext d 165 [.int a0, .int a1, .int a2, .int a3, .int a4, .int a5] (pm_st 108 (shp p q) I J) Q := by
  obtain ⟨d, rfl⟩ := zd1 hd rfl
  have hc := pm_call_m (M := M) (cost := cost) zext_m d
  refine z_in (L := []) (K := []) (ls := [some (.int a0), some (.int a1), some (.int a2), some (.int a3), some (.int a4), some (.int a5), none, none]) zmt_165 zco_165 rfl rfl zid_n zid_n ?_
  delta f_X12_spelled at h
  refine g_iload_n (pc' := 1)  hc rfl rfl rfl ?_
  refine g_i2l (pc' := 2)  hc rfl rfl ?_
  refine g_ldc2_w (pc' := 5) (v := (96 : Int64)) hc rfl rfl rfl ?_
  refine g_lsub (pc' := 6)  hc rfl rfl ?_
  refine g_iconst (pc' := 7) (v := (5 : Int32)) hc rfl zki_5 rfl ?_
  refine g_lshl (pc' := 8)  hc rfl rfl ?_
  refine g_iload_n (pc' := 9)  hc rfl rfl rfl ?_
  refine g_bipush (pc' := 11) (v := (96 : Int32)) hc rfl zkb_96 rfl ?_
  refine g_isub (pc' := 12)  hc rfl rfl ?_
  refine g_i2l (pc' := 13)  hc rfl rfl ?_
  refine g_lor (pc' := 14)  hc rfl rfl ?_
  refine g_lstore (pc' := 16) (ls1 := [some (.int a0), some (.int a1), some (.int a2), some (.int a3), some (.int a4), some (.int a5), some (.long (((a0.toInt64 - (96 : Int64)) <<< ((5 : Int32).toInt64 &&& 63)) ||| ((a1 - (96 : Int32)).toInt64))), none]) hc rfl (zlt rfl) rfl rfl ?_
  refine g_iload_n (pc' := 17)  hc rfl rfl rfl ?_
  refine zjn (G := (fun (j1 : Int64) => pm_ev C_X12_spelled (d + 1) (pm_call M cost zext d) cost (false, false) 108 0 0 Q 32 [some (.int a0), some (.int a1), some (.int a2), some (.int a3), some (.int a4), some (.int a5), some (.long j1), none] [] 0 0 (zS p q I [] J []))) (zwp_bind h) ?_ (fun h => ?_)
  · rintro j1 h
    refine g_iload_n (pc' := 33)  hc rfl rfl rfl ?_
    refine zjn (G := (fun (j2 : Int64) => pm_ev C_X12_spelled (d + 1) (pm_call M cost zext d) cost (false, false) 108 0 0 Q 48 [some (.int a0), some (.int a1), some (.int a2), some (.int a3), some (.int a4), some (.int a5), some (.long j2), none] [] 0 0 (zS p q I [] J []))) (zwp_bind h) ?_ (fun h => ?_)
    · rintro j2 h
      refine g_iload (pc' := 50)  hc rfl rfl rfl ?_
      refine zjn (G := (fun (j3 : Int64) => pm_ev C_X12_spelled (d + 1) (pm_call M cost zext d) cost (false, false) 108 0 0 Q 66 [some (.int a0), some (.int a1), some (.int a2), some (.int a3), some (.int a4), some (.int a5), some (.long j3), none] [] 0 0 (zS p q I [] J []))) (zwp_bind h) ?_ (fun h => ?_)
      · rintro j3 h
        refine g_iload (pc' := 68)  hc rfl rfl rfl ?_
        refine zjn (G := (fun (j4 : Int64) => pm_ev C_X12_spelled (d + 1) (pm_call M cost zext d) cost (false, false) 108 0 0 Q 84 [some (.int a0), some (.int a1), some (.int a2), some (.int a3), some (.int a4), some (.int a5), some (.long j4), none] [] 0 0 (zS p q I [] J []))) (zwp_bind h) ?_ (fun h => ?_)
        · rintro j4 h
          refine g_lload (pc' := 86)  hc rfl rfl rfl ?_
          replace h := zws h
          exact g_lreturn hc rfl rfl (fun _ => ⟨rfl, rfl⟩) h
        refine g_if_eq (pc' := 71) hc rfl rfl (fun hx => ?_) (fun hx => ?_)
        · replace h := zwp_t h hx
          replace h := zws h
          exact h
        · replace h := zwp_f h hx
          refine g_lload (pc' := 73)  hc rfl rfl rfl ?_
          refine g_iconst (pc' := 74) (v := (5 : Int32)) hc rfl zki_5 rfl ?_
          refine g_lshl (pc' := 75)  hc rfl rfl ?_
          refine g_iload (pc' := 77)  hc rfl rfl rfl ?_
          refine g_bipush (pc' := 79) (v := (96 : Int32)) hc rfl zkb_96 rfl ?_
          refine g_isub (pc' := 80)  hc rfl rfl ?_
          refine g_i2l (pc' := 81)  hc rfl rfl ?_
          refine g_lor (pc' := 82)  hc rfl rfl ?_
          refine g_lstore (pc' := 84) (ls1 := [some (.int a0), some (.int a1), some (.int a2), some (.int a3), some (.int a4), some (.int a5), some (.long ((j3 <<< ((5 : Int32).toInt64 &&& 63)) ||| ((a5 - (96 : Int32)).toInt64))), none]) hc rfl (zlt rfl) rfl rfl ?_
          replace h := zws h
          exact h
      refine g_if_eq (pc' := 53) hc rfl rfl (fun hx => ?_) (fun hx => ?_)
      · replace h := zwp_t h hx
        replace h := zws h
        exact h
      · replace h := zwp_f h hx
        refine g_lload (pc' := 55)  hc rfl rfl rfl ?_
        refine g_iconst (pc' := 56) (v := (5 : Int32)) hc rfl zki_5 rfl ?_
        refine g_lshl (pc' := 57)  hc rfl rfl ?_
        refine g_iload (pc' := 59)  hc rfl rfl rfl ?_
        refine g_bipush (pc' := 61) (v := (96 : Int32)) hc rfl zkb_96 rfl ?_
        refine g_isub (pc' := 62)  hc rfl rfl ?_
        refine g_i2l (pc' := 63)  hc rfl rfl ?_
        refine g_lor (pc' := 64)  hc rfl rfl ?_
        refine g_lstore (pc' := 66) (ls1 := [some (.int a0), some (.int a1), some (.int a2), some (.int a3), some (.int a4), some (.int a5), some (.long ((j2 <<< ((5 : Int32).toInt64 &&& 63)) ||| ((a4 - (96 : Int32)).toInt64))), none]) hc rfl (zlt rfl) rfl rfl ?_
        replace h := zws h
        exact h
    refine g_if_eq (pc' := 36) hc rfl rfl (fun hx => ?_) (fun hx => ?_)
    · replace h := zwp_t h hx
      replace h := zws h
      exact h
    · replace h := zwp_f h hx
      refine g_lload (pc' := 38)  hc rfl rfl rfl ?_
      refine g_iconst (pc' := 39) (v := (5 : Int32)) hc rfl zki_5 rfl ?_
      refine g_lshl (pc' := 40)  hc rfl rfl ?_
      refine g_iload_n (pc' := 41)  hc rfl rfl rfl ?_
      refine g_bipush (pc' := 43) (v := (96 : Int32)) hc rfl zkb_96 rfl ?_
      refine g_isub (pc' := 44)  hc rfl rfl ?_
      refine g_i2l (pc' := 45)  hc rfl rfl ?_
      refine g_lor (pc' := 46)  hc rfl rfl ?_
      refine g_lstore (pc' := 48) (ls1 := [some (.int a0), some (.int a1), some (.int a2), some (.int a3), some (.int a4), some (.int a5), some (.long ((j1 <<< ((5 : Int32).toInt64 &&& 63)) ||| ((a3 - (96 : Int32)).toInt64))), none]) hc rfl (zlt rfl) rfl rfl ?_
      replace h := zws h
      exact h
  refine g_if_eq (pc' := 20) hc rfl rfl (fun hx => ?_) (fun hx => ?_)
  · replace h := zwp_t h hx
    replace h := zws h
    exact h
  · replace h := zwp_f h hx
    refine g_lload (pc' := 22)  hc rfl rfl rfl ?_
    refine g_iconst (pc' := 23) (v := (5 : Int32)) hc rfl zki_5 rfl ?_
    refine g_lshl (pc' := 24)  hc rfl rfl ?_
    refine g_iload_n (pc' := 25)  hc rfl rfl rfl ?_
    refine g_bipush (pc' := 27) (v := (96 : Int32)) hc rfl zkb_96 rfl ?_
    refine g_isub (pc' := 28)  hc rfl rfl ?_
    refine g_i2l (pc' := 29)  hc rfl rfl ?_
    refine g_lor (pc' := 30)  hc rfl rfl ?_
    refine g_lstore (pc' := 32) (ls1 := [some (.int a0), some (.int a1), some (.int a2), some (.int a3), some (.int a4), some (.int a5), some (.long (((((a0.toInt64 - (96 : Int64)) <<< ((5 : Int32).toInt64 &&& 63)) ||| ((a1 - (96 : Int32)).toInt64)) <<< ((5 : Int32).toInt64 &&& 63)) ||| ((a2 - (96 : Int32)).toInt64))), none]) hc rfl (zlt rfl) rfl rfl ?_
    replace h := zws h
    exact h
set_option maxRecDepth 4000 in
theorem ok_X12_letters {p q : Nat} {I : pI} {J : pJ} {a0 : Int32} {Q : pQ} {d : Nat} (hd : 2 ≤ d) (h : zwp (f_X12_letters a0) (fun r => Q (.inl (some (.long r))) (zS p q I [] J []))) : pm_call M cost zext d 166 [.int a0] (pm_st 108 (shp p q) I J) Q := by
  obtain ⟨d, rfl⟩ := zd1 hd rfl
  have hc := pm_call_m (M := M) (cost := cost) zext_m d
  refine z_in (L := []) (K := []) (ls := [some (.int a0)]) zmt_166 zco_166 rfl rfl zid_n zid_n ?_
  delta f_X12_letters at h
  refine g_iload_n (pc' := 1)  hc rfl rfl rfl ?_
  by_cases hx1 : a0 = (0 : Int32)
  · replace h := zwp_t h hx1
    refine z_switch (pc' := 76) hc rfl (by rw [hx1]; decide +kernel) ?_
    refine g_bipush (pc' := 78) (v := (115 : Int32)) hc rfl zkb_115 rfl ?_
    refine g_bipush (pc' := 80) (v := (116 : Int32)) hc rfl zkb_116 rfl ?_
    refine g_bipush (pc' := 82) (v := (101 : Int32)) hc rfl zkb_101 rfl ?_
    refine g_bipush (pc' := 84) (v := (112 : Int32)) hc rfl zkb_112 rfl ?_
    refine g_iconst (pc' := 85) (v := (0 : Int32)) hc rfl zki_0 rfl ?_
    refine g_iconst (pc' := 86) (v := (0 : Int32)) hc rfl zki_0 rfl ?_
    refine z_stat (as := [.int (115 : Int32), .int (116 : Int32), .int (101 : Int32), .int (112 : Int32), .int (0 : Int32), .int (0 : Int32)]) (r := []) hc rfl rfl rfl rfl zco_165 rfl rfl rfl ?_
    refine ok_X12_spelled (zdp hd rfl) (zwp_mono (zwp_bind h) ?_)
    rintro r16 h
    refine z_po (pc' := 89) (st' := [.long r16]) (v := (some (.long r16))) (L' := []) (K' := []) zco_165 rfl rfl rfl rfl rfl rfl rfl rfl ?_
    replace h := zws h
    exact g_lreturn hc rfl rfl (fun _ => ⟨rfl, rfl⟩) h
  replace h := zwp_f h hx1
  by_cases hx2 : a0 = (1 : Int32)
  · replace h := zwp_t h hx2
    refine z_switch (pc' := 90) hc rfl (by rw [hx2]; decide +kernel) ?_
    refine g_bipush (pc' := 92) (v := (115 : Int32)) hc rfl zkb_115 rfl ?_
    refine g_bipush (pc' := 94) (v := (111 : Int32)) hc rfl zkb_111 rfl ?_
    refine g_bipush (pc' := 96) (v := (114 : Int32)) hc rfl zkb_114 rfl ?_
    refine g_bipush (pc' := 98) (v := (101 : Int32)) hc rfl zkb_101 rfl ?_
    refine g_iconst (pc' := 99) (v := (0 : Int32)) hc rfl zki_0 rfl ?_
    refine g_iconst (pc' := 100) (v := (0 : Int32)) hc rfl zki_0 rfl ?_
    refine z_stat (as := [.int (115 : Int32), .int (111 : Int32), .int (114 : Int32), .int (101 : Int32), .int (0 : Int32), .int (0 : Int32)]) (r := []) hc rfl rfl rfl rfl zco_165 rfl rfl rfl ?_
    refine ok_X12_spelled (zdp hd rfl) (zwp_mono (zwp_bind h) ?_)
    rintro r17 h
    refine z_po (pc' := 103) (st' := [.long r17]) (v := (some (.long r17))) (L' := []) (K' := []) zco_165 rfl rfl rfl rfl rfl rfl rfl rfl ?_
    replace h := zws h
    exact g_lreturn hc rfl rfl (fun _ => ⟨rfl, rfl⟩) h
  replace h := zwp_f h hx2
  by_cases hx3 : a0 = (2 : Int32)
  · replace h := zwp_t h hx3
    refine z_switch (pc' := 104) hc rfl (by rw [hx3]; decide +kernel) ?_
    refine g_bipush (pc' := 106) (v := (108 : Int32)) hc rfl zkb_108 rfl ?_
    refine g_bipush (pc' := 108) (v := (105 : Int32)) hc rfl zkb_105 rfl ?_
    refine g_bipush (pc' := 110) (v := (103 : Int32)) hc rfl zkb_103 rfl ?_
    refine g_bipush (pc' := 112) (v := (104 : Int32)) hc rfl zkb_104 rfl ?_
    refine g_bipush (pc' := 114) (v := (116 : Int32)) hc rfl zkb_116 rfl ?_
    refine g_iconst (pc' := 115) (v := (0 : Int32)) hc rfl zki_0 rfl ?_
    refine z_stat (as := [.int (108 : Int32), .int (105 : Int32), .int (103 : Int32), .int (104 : Int32), .int (116 : Int32), .int (0 : Int32)]) (r := []) hc rfl rfl rfl rfl zco_165 rfl rfl rfl ?_
    refine ok_X12_spelled (zdp hd rfl) (zwp_mono (zwp_bind h) ?_)
    rintro r18 h
    refine z_po (pc' := 118) (st' := [.long r18]) (v := (some (.long r18))) (L' := []) (K' := []) zco_165 rfl rfl rfl rfl rfl rfl rfl rfl ?_
    replace h := zws h
    exact g_lreturn hc rfl rfl (fun _ => ⟨rfl, rfl⟩) h
  replace h := zwp_f h hx3
  by_cases hx4 : a0 = (3 : Int32)
  · replace h := zwp_t h hx4
    refine z_switch (pc' := 119) hc rfl (by rw [hx4]; decide +kernel) ?_
    refine g_bipush (pc' := 121) (v := (119 : Int32)) hc rfl zkb_119 rfl ?_
    refine g_bipush (pc' := 123) (v := (105 : Int32)) hc rfl zkb_105 rfl ?_
    refine g_bipush (pc' := 125) (v := (116 : Int32)) hc rfl zkb_116 rfl ?_
    refine g_bipush (pc' := 127) (v := (104 : Int32)) hc rfl zkb_104 rfl ?_
    refine g_iconst (pc' := 128) (v := (0 : Int32)) hc rfl zki_0 rfl ?_
    refine g_iconst (pc' := 129) (v := (0 : Int32)) hc rfl zki_0 rfl ?_
    refine z_stat (as := [.int (119 : Int32), .int (105 : Int32), .int (116 : Int32), .int (104 : Int32), .int (0 : Int32), .int (0 : Int32)]) (r := []) hc rfl rfl rfl rfl zco_165 rfl rfl rfl ?_
    refine ok_X12_spelled (zdp hd rfl) (zwp_mono (zwp_bind h) ?_)
    rintro r19 h
    refine z_po (pc' := 132) (st' := [.long r19]) (v := (some (.long r19))) (L' := []) (K' := []) zco_165 rfl rfl rfl rfl rfl rfl rfl rfl ?_
    replace h := zws h
    exact g_lreturn hc rfl rfl (fun _ => ⟨rfl, rfl⟩) h
  replace h := zwp_f h hx4
  by_cases hx5 : a0 = (4 : Int32)
  · replace h := zwp_t h hx5
    refine z_switch (pc' := 133) hc rfl (by rw [hx5]; decide +kernel) ?_
    refine g_bipush (pc' := 135) (v := (104 : Int32)) hc rfl zkb_104 rfl ?_
    refine g_bipush (pc' := 137) (v := (111 : Int32)) hc rfl zkb_111 rfl ?_
    refine g_bipush (pc' := 139) (v := (117 : Int32)) hc rfl zkb_117 rfl ?_
    refine g_bipush (pc' := 141) (v := (114 : Int32)) hc rfl zkb_114 rfl ?_
    refine g_iconst (pc' := 142) (v := (0 : Int32)) hc rfl zki_0 rfl ?_
    refine g_iconst (pc' := 143) (v := (0 : Int32)) hc rfl zki_0 rfl ?_
    refine z_stat (as := [.int (104 : Int32), .int (111 : Int32), .int (117 : Int32), .int (114 : Int32), .int (0 : Int32), .int (0 : Int32)]) (r := []) hc rfl rfl rfl rfl zco_165 rfl rfl rfl ?_
    refine ok_X12_spelled (zdp hd rfl) (zwp_mono (zwp_bind h) ?_)
    rintro r20 h
    refine z_po (pc' := 146) (st' := [.long r20]) (v := (some (.long r20))) (L' := []) (K' := []) zco_165 rfl rfl rfl rfl rfl rfl rfl rfl ?_
    replace h := zws h
    exact g_lreturn hc rfl rfl (fun _ => ⟨rfl, rfl⟩) h
  replace h := zwp_f h hx5
  by_cases hx6 : a0 = (5 : Int32)
  · replace h := zwp_t h hx6
    refine z_switch (pc' := 147) hc rfl (by rw [hx6]; decide +kernel) ?_
    refine g_bipush (pc' := 149) (v := (104 : Int32)) hc rfl zkb_104 rfl ?_
    refine g_bipush (pc' := 151) (v := (101 : Int32)) hc rfl zkb_101 rfl ?_
    refine g_bipush (pc' := 153) (v := (108 : Int32)) hc rfl zkb_108 rfl ?_
    refine g_bipush (pc' := 155) (v := (100 : Int32)) hc rfl zkb_100 rfl ?_
    refine g_iconst (pc' := 156) (v := (0 : Int32)) hc rfl zki_0 rfl ?_
    refine g_iconst (pc' := 157) (v := (0 : Int32)) hc rfl zki_0 rfl ?_
    refine z_stat (as := [.int (104 : Int32), .int (101 : Int32), .int (108 : Int32), .int (100 : Int32), .int (0 : Int32), .int (0 : Int32)]) (r := []) hc rfl rfl rfl rfl zco_165 rfl rfl rfl ?_
    refine ok_X12_spelled (zdp hd rfl) (zwp_mono (zwp_bind h) ?_)
    rintro r21 h
    refine z_po (pc' := 160) (st' := [.long r21]) (v := (some (.long r21))) (L' := []) (K' := []) zco_165 rfl rfl rfl rfl rfl rfl rfl rfl ?_
    replace h := zws h
    exact g_lreturn hc rfl rfl (fun _ => ⟨rfl, rfl⟩) h
  replace h := zwp_f h hx6
  by_cases hx7 : a0 = (6 : Int32)
  · replace h := zwp_t h hx7
    refine z_switch (pc' := 161) hc rfl (by rw [hx7]; decide +kernel) ?_
    refine g_bipush (pc' := 163) (v := (116 : Int32)) hc rfl zkb_116 rfl ?_
    refine g_bipush (pc' := 165) (v := (97 : Int32)) hc rfl zkb_97 rfl ?_
    refine g_bipush (pc' := 167) (v := (98 : Int32)) hc rfl zkb_98 rfl ?_
    refine g_bipush (pc' := 169) (v := (108 : Int32)) hc rfl zkb_108 rfl ?_
    refine g_bipush (pc' := 171) (v := (101 : Int32)) hc rfl zkb_101 rfl ?_
    refine g_iconst (pc' := 172) (v := (0 : Int32)) hc rfl zki_0 rfl ?_
    refine z_stat (as := [.int (116 : Int32), .int (97 : Int32), .int (98 : Int32), .int (108 : Int32), .int (101 : Int32), .int (0 : Int32)]) (r := []) hc rfl rfl rfl rfl zco_165 rfl rfl rfl ?_
    refine ok_X12_spelled (zdp hd rfl) (zwp_mono (zwp_bind h) ?_)
    rintro r22 h
    refine z_po (pc' := 175) (st' := [.long r22]) (v := (some (.long r22))) (L' := []) (K' := []) zco_165 rfl rfl rfl rfl rfl rfl rfl rfl ?_
    replace h := zws h
    exact g_lreturn hc rfl rfl (fun _ => ⟨rfl, rfl⟩) h
  replace h := zwp_f h hx7
  by_cases hx8 : a0 = (7 : Int32)
  · replace h := zwp_t h hx8
    refine z_switch (pc' := 176) hc rfl (by rw [hx8]; decide +kernel) ?_
    refine g_bipush (pc' := 178) (v := (119 : Int32)) hc rfl zkb_119 rfl ?_
    refine g_bipush (pc' := 180) (v := (97 : Int32)) hc rfl zkb_97 rfl ?_
    refine g_bipush (pc' := 182) (v := (108 : Int32)) hc rfl zkb_108 rfl ?_
    refine g_bipush (pc' := 184) (v := (108 : Int32)) hc rfl zkb_108 rfl ?_
    refine g_iconst (pc' := 185) (v := (0 : Int32)) hc rfl zki_0 rfl ?_
    refine g_iconst (pc' := 186) (v := (0 : Int32)) hc rfl zki_0 rfl ?_
    refine z_stat (as := [.int (119 : Int32), .int (97 : Int32), .int (108 : Int32), .int (108 : Int32), .int (0 : Int32), .int (0 : Int32)]) (r := []) hc rfl rfl rfl rfl zco_165 rfl rfl rfl ?_
    refine ok_X12_spelled (zdp hd rfl) (zwp_mono (zwp_bind h) ?_)
    rintro r23 h
    refine z_po (pc' := 189) (st' := [.long r23]) (v := (some (.long r23))) (L' := []) (K' := []) zco_165 rfl rfl rfl rfl rfl rfl rfl rfl ?_
    replace h := zws h
    exact g_lreturn hc rfl rfl (fun _ => ⟨rfl, rfl⟩) h
  replace h := zwp_f h hx8
  by_cases hx9 : a0 = (8 : Int32)
  · replace h := zwp_t h hx9
    refine z_switch (pc' := 190) hc rfl (by rw [hx9]; decide +kernel) ?_
    refine g_bipush (pc' := 192) (v := (102 : Int32)) hc rfl zkb_102 rfl ?_
    refine g_bipush (pc' := 194) (v := (105 : Int32)) hc rfl zkb_105 rfl ?_
    refine g_bipush (pc' := 196) (v := (103 : Int32)) hc rfl zkb_103 rfl ?_
    refine g_bipush (pc' := 198) (v := (117 : Int32)) hc rfl zkb_117 rfl ?_
    refine g_bipush (pc' := 200) (v := (114 : Int32)) hc rfl zkb_114 rfl ?_
    refine g_bipush (pc' := 202) (v := (101 : Int32)) hc rfl zkb_101 rfl ?_
    refine z_stat (as := [.int (102 : Int32), .int (105 : Int32), .int (103 : Int32), .int (117 : Int32), .int (114 : Int32), .int (101 : Int32)]) (r := []) hc rfl rfl rfl rfl zco_165 rfl rfl rfl ?_
    refine ok_X12_spelled (zdp hd rfl) (zwp_mono (zwp_bind h) ?_)
    rintro r24 h
    refine z_po (pc' := 205) (st' := [.long r24]) (v := (some (.long r24))) (L' := []) (K' := []) zco_165 rfl rfl rfl rfl rfl rfl rfl rfl ?_
    replace h := zws h
    exact g_lreturn hc rfl rfl (fun _ => ⟨rfl, rfl⟩) h
  replace h := zwp_f h hx9
  by_cases hx10 : a0 = (9 : Int32)
  · replace h := zwp_t h hx10
    refine z_switch (pc' := 206) hc rfl (by rw [hx10]; decide +kernel) ?_
    refine g_bipush (pc' := 208) (v := (115 : Int32)) hc rfl zkb_115 rfl ?_
    refine g_bipush (pc' := 210) (v := (101 : Int32)) hc rfl zkb_101 rfl ?_
    refine g_bipush (pc' := 212) (v := (97 : Int32)) hc rfl zkb_97 rfl ?_
    refine g_bipush (pc' := 214) (v := (116 : Int32)) hc rfl zkb_116 rfl ?_
    refine g_iconst (pc' := 215) (v := (0 : Int32)) hc rfl zki_0 rfl ?_
    refine g_iconst (pc' := 216) (v := (0 : Int32)) hc rfl zki_0 rfl ?_
    refine z_stat (as := [.int (115 : Int32), .int (101 : Int32), .int (97 : Int32), .int (116 : Int32), .int (0 : Int32), .int (0 : Int32)]) (r := []) hc rfl rfl rfl rfl zco_165 rfl rfl rfl ?_
    refine ok_X12_spelled (zdp hd rfl) (zwp_mono (zwp_bind h) ?_)
    rintro r25 h
    refine z_po (pc' := 219) (st' := [.long r25]) (v := (some (.long r25))) (L' := []) (K' := []) zco_165 rfl rfl rfl rfl rfl rfl rfl rfl ?_
    replace h := zws h
    exact g_lreturn hc rfl rfl (fun _ => ⟨rfl, rfl⟩) h
  replace h := zwp_f h hx10
  by_cases hx11 : a0 = (10 : Int32)
  · replace h := zwp_t h hx11
    refine z_switch (pc' := 220) hc rfl (by rw [hx11]; decide +kernel) ?_
    refine g_bipush (pc' := 222) (v := (100 : Int32)) hc rfl zkb_100 rfl ?_
    refine g_bipush (pc' := 224) (v := (117 : Int32)) hc rfl zkb_117 rfl ?_
    refine g_bipush (pc' := 226) (v := (108 : Int32)) hc rfl zkb_108 rfl ?_
    refine g_bipush (pc' := 228) (v := (108 : Int32)) hc rfl zkb_108 rfl ?_
    refine g_iconst (pc' := 229) (v := (0 : Int32)) hc rfl zki_0 rfl ?_
    refine g_iconst (pc' := 230) (v := (0 : Int32)) hc rfl zki_0 rfl ?_
    refine z_stat (as := [.int (100 : Int32), .int (117 : Int32), .int (108 : Int32), .int (108 : Int32), .int (0 : Int32), .int (0 : Int32)]) (r := []) hc rfl rfl rfl rfl zco_165 rfl rfl rfl ?_
    refine ok_X12_spelled (zdp hd rfl) (zwp_mono (zwp_bind h) ?_)
    rintro r26 h
    refine z_po (pc' := 233) (st' := [.long r26]) (v := (some (.long r26))) (L' := []) (K' := []) zco_165 rfl rfl rfl rfl rfl rfl rfl rfl ?_
    replace h := zws h
    exact g_lreturn hc rfl rfl (fun _ => ⟨rfl, rfl⟩) h
  replace h := zwp_f h hx11
  by_cases hx12 : a0 = (11 : Int32)
  · replace h := zwp_t h hx12
    refine z_switch (pc' := 234) hc rfl (by rw [hx12]; decide +kernel) ?_
    refine g_bipush (pc' := 236) (v := (103 : Int32)) hc rfl zkb_103 rfl ?_
    refine g_bipush (pc' := 238) (v := (111 : Int32)) hc rfl zkb_111 rfl ?_
    refine g_bipush (pc' := 240) (v := (101 : Int32)) hc rfl zkb_101 rfl ?_
    refine g_bipush (pc' := 242) (v := (115 : Int32)) hc rfl zkb_115 rfl ?_
    refine g_iconst (pc' := 243) (v := (0 : Int32)) hc rfl zki_0 rfl ?_
    refine g_iconst (pc' := 244) (v := (0 : Int32)) hc rfl zki_0 rfl ?_
    refine z_stat (as := [.int (103 : Int32), .int (111 : Int32), .int (101 : Int32), .int (115 : Int32), .int (0 : Int32), .int (0 : Int32)]) (r := []) hc rfl rfl rfl rfl zco_165 rfl rfl rfl ?_
    refine ok_X12_spelled (zdp hd rfl) (zwp_mono (zwp_bind h) ?_)
    rintro r27 h
    refine z_po (pc' := 247) (st' := [.long r27]) (v := (some (.long r27))) (L' := []) (K' := []) zco_165 rfl rfl rfl rfl rfl rfl rfl rfl ?_
    replace h := zws h
    exact g_lreturn hc rfl rfl (fun _ => ⟨rfl, rfl⟩) h
  replace h := zwp_f h hx12
  by_cases hx13 : a0 = (12 : Int32)
  · replace h := zwp_t h hx13
    refine z_switch (pc' := 248) hc rfl (by rw [hx13]; decide +kernel) ?_
    refine g_bipush (pc' := 250) (v := (104 : Int32)) hc rfl zkb_104 rfl ?_
    refine g_bipush (pc' := 252) (v := (117 : Int32)) hc rfl zkb_117 rfl ?_
    refine g_bipush (pc' := 254) (v := (114 : Int32)) hc rfl zkb_114 rfl ?_
    refine g_bipush (pc' := 256) (v := (116 : Int32)) hc rfl zkb_116 rfl ?_
    refine g_bipush (pc' := 258) (v := (115 : Int32)) hc rfl zkb_115 rfl ?_
    refine g_iconst (pc' := 259) (v := (0 : Int32)) hc rfl zki_0 rfl ?_
    refine z_stat (as := [.int (104 : Int32), .int (117 : Int32), .int (114 : Int32), .int (116 : Int32), .int (115 : Int32), .int (0 : Int32)]) (r := []) hc rfl rfl rfl rfl zco_165 rfl rfl rfl ?_
    refine ok_X12_spelled (zdp hd rfl) (zwp_mono (zwp_bind h) ?_)
    rintro r28 h
    refine z_po (pc' := 262) (st' := [.long r28]) (v := (some (.long r28))) (L' := []) (K' := []) zco_165 rfl rfl rfl rfl rfl rfl rfl rfl ?_
    replace h := zws h
    exact g_lreturn hc rfl rfl (fun _ => ⟨rfl, rfl⟩) h
  replace h := zwp_f h hx13
  by_cases hx14 : a0 = (13 : Int32)
  · replace h := zwp_t h hx14
    refine z_switch (pc' := 263) hc rfl (by rw [hx14]; decide +kernel) ?_
    refine g_bipush (pc' := 265) (v := (97 : Int32)) hc rfl zkb_97 rfl ?_
    refine g_bipush (pc' := 267) (v := (110 : Int32)) hc rfl zkb_110 rfl ?_
    refine g_bipush (pc' := 269) (v := (100 : Int32)) hc rfl zkb_100 rfl ?_
    refine g_iconst (pc' := 270) (v := (0 : Int32)) hc rfl zki_0 rfl ?_
    refine g_iconst (pc' := 271) (v := (0 : Int32)) hc rfl zki_0 rfl ?_
    refine g_iconst (pc' := 272) (v := (0 : Int32)) hc rfl zki_0 rfl ?_
    refine z_stat (as := [.int (97 : Int32), .int (110 : Int32), .int (100 : Int32), .int (0 : Int32), .int (0 : Int32), .int (0 : Int32)]) (r := []) hc rfl rfl rfl rfl zco_165 rfl rfl rfl ?_
    refine ok_X12_spelled (zdp hd rfl) (zwp_mono (zwp_bind h) ?_)
    rintro r29 h
    refine z_po (pc' := 275) (st' := [.long r29]) (v := (some (.long r29))) (L' := []) (K' := []) zco_165 rfl rfl rfl rfl rfl rfl rfl rfl ?_
    replace h := zws h
    exact g_lreturn hc rfl rfl (fun _ => ⟨rfl, rfl⟩) h
  replace h := zwp_f h hx14
  by_cases hx15 : a0 = (14 : Int32)
  · replace h := zwp_t h hx15
    refine z_switch (pc' := 276) hc rfl (by rw [hx15]; decide +kernel) ?_
    refine g_bipush (pc' := 278) (v := (111 : Int32)) hc rfl zkb_111 rfl ?_
    refine g_bipush (pc' := 280) (v := (114 : Int32)) hc rfl zkb_114 rfl ?_
    refine g_iconst (pc' := 281) (v := (0 : Int32)) hc rfl zki_0 rfl ?_
    refine g_iconst (pc' := 282) (v := (0 : Int32)) hc rfl zki_0 rfl ?_
    refine g_iconst (pc' := 283) (v := (0 : Int32)) hc rfl zki_0 rfl ?_
    refine g_iconst (pc' := 284) (v := (0 : Int32)) hc rfl zki_0 rfl ?_
    refine z_stat (as := [.int (111 : Int32), .int (114 : Int32), .int (0 : Int32), .int (0 : Int32), .int (0 : Int32), .int (0 : Int32)]) (r := []) hc rfl rfl rfl rfl zco_165 rfl rfl rfl ?_
    refine ok_X12_spelled (zdp hd rfl) (zwp_mono (zwp_bind h) ?_)
    rintro r30 h
    refine z_po (pc' := 287) (st' := [.long r30]) (v := (some (.long r30))) (L' := []) (K' := []) zco_165 rfl rfl rfl rfl rfl rfl rfl rfl ?_
    replace h := zws h
    exact g_lreturn hc rfl rfl (fun _ => ⟨rfl, rfl⟩) h
  replace h := zwp_f h hx15
  refine z_switch (pc' := 288) hc rfl (zsw_df (told := [(0 : Int32), (1 : Int32), (2 : Int32), (3 : Int32), (4 : Int32), (5 : Int32), (6 : Int32), (7 : Int32), (8 : Int32), (9 : Int32), (10 : Int32), (11 : Int32), (12 : Int32), (13 : Int32), (14 : Int32)]) (by decide +kernel) (by decide) rfl (zne_c hx1 (zne_c hx2 (zne_c hx3 (zne_c hx4 (zne_c hx5 (zne_c hx6 (zne_c hx7 (zne_c hx8 (zne_c hx9 (zne_c hx10 (zne_c hx11 (zne_c hx12 (zne_c hx13 (zne_c hx14 (zne_c hx15 zne_n)))))))))))))))) ?_
  refine g_bipush (pc' := 290) (v := (110 : Int32)) hc rfl zkb_110 rfl ?_
  refine g_bipush (pc' := 292) (v := (111 : Int32)) hc rfl zkb_111 rfl ?_
  refine g_bipush (pc' := 294) (v := (116 : Int32)) hc rfl zkb_116 rfl ?_
  refine g_iconst (pc' := 295) (v := (0 : Int32)) hc rfl zki_0 rfl ?_
  refine g_iconst (pc' := 296) (v := (0 : Int32)) hc rfl zki_0 rfl ?_
  refine g_iconst (pc' := 297) (v := (0 : Int32)) hc rfl zki_0 rfl ?_
  refine z_stat (as := [.int (110 : Int32), .int (111 : Int32), .int (116 : Int32), .int (0 : Int32), .int (0 : Int32), .int (0 : Int32)]) (r := []) hc rfl rfl rfl rfl zco_165 rfl rfl rfl ?_
  refine ok_X12_spelled (zdp hd rfl) (zwp_mono (zwp_bind h) ?_)
  rintro r31 h
  refine z_po (pc' := 300) (st' := [.long r31]) (v := (some (.long r31))) (L' := []) (K' := []) zco_165 rfl rfl rfl rfl rfl rfl rfl rfl ?_
  replace h := zws h
  exact g_lreturn hc rfl rfl (fun _ => ⟨rfl, rfl⟩) h
set_option maxRecDepth 4000 in
theorem ok_X12_knownWord_75 {p q : Nat} {I : pI} {J : pJ} {Q : pQ} {d : Nat} (hd : 3 ≤ d) (h : zwp (f_X12_knownWord (I 75 23) (I 75 21) (J 75 26)) (fun r => Q (.inl (some (.int r))) (zS p q I [] J []))) : pm_call M cost zext d 167 [.ref 75] (pm_st 108 (shp p q) I J) Q := by
  obtain ⟨d, rfl⟩ := zd1 hd rfl
  have hc := pm_call_m (M := M) (cost := cost) zext_m d
  refine z_in (L := []) (K := []) (ls := [some (.ref 75), none]) zmt_167 zco_167 rfl rfl zid_n zid_n ?_
  delta f_X12_knownWord at h
  refine g_aload_n (pc' := 1)  hc rfl rfl rfl rfl ?_
  refine z_getI (pc' := 4) (v := (I 75 21)) hc rfl rfl rfl sh_75 rfl rfl rfl ?_
  refine g_iconst (pc' := 5) (v := (1 : Int32)) hc rfl zki_1 rfl ?_
  refine g_icmp_ne (pc' := 8) hc rfl rfl (fun hx => ?_) (fun hx => ?_)
  · replace h := zwp_f h hx
    refine g_iconst (pc' := 18) (v := (-1 : Int32)) hc rfl zki_m1 rfl ?_
    replace h := zws h
    exact g_ireturn hc rfl rfl rfl (fun _ => ⟨rfl, rfl⟩) h
  · replace h := zwp_t h hx
    refine g_aload_n (pc' := 9)  hc rfl rfl rfl rfl ?_
    refine z_getI (pc' := 12) (v := (I 75 23)) hc rfl rfl rfl sh_75 rfl rfl rfl ?_
    refine g_bipush (pc' := 14) (v := (6 : Int32)) hc rfl zkb_6 rfl ?_
    refine g_icmp_le (pc' := 17) hc rfl rfl (fun hx => ?_) (fun hx => ?_)
    · replace h := zwp_t h hx
      refine g_iconst (pc' := 20) (v := (0 : Int32)) hc rfl zki_0 rfl ?_
      refine g_istore_n (pc' := 21) (ls1 := [some (.ref 75), some (.int (0 : Int32))]) hc rfl (zlt rfl) rfl rfl ?_
      refine zjs (G := (fun (_ : Unit) => ∀ z2 : Option Value, znl z2 = true → pm_ev C_X12_knownWord (d + 1) (pm_call M cost zext d) cost (false, false) 108 0 0 Q 47 [some (.ref 75), z2] [] 0 0 (zS p q I [] J []))) h ?_ (fun h => ?_)
      · rintro _ h z2 hz2
        refine g_iconst (pc' := 48) (v := (-1 : Int32)) hc rfl zki_m1 rfl ?_
        replace h := zws h
        exact g_ireturn hc rfl rfl rfl (fun _ => ⟨rfl, rfl⟩) h
      refine zitr_ev (G := (fun (x1 : Int32) => pm_ev C_X12_knownWord (d + 1) (pm_call M cost zext d) cost (false, false) 108 0 0 Q 21 [some (.ref 75), some (.int x1)] [] 0 0 (zS p q I [] J []))) ?_ zFU (0 : Int32) h
      rintro x1 h
      refine g_iload_n (pc' := 22)  hc rfl rfl rfl ?_
      refine g_bipush (pc' := 24) (v := (16 : Int32)) hc rfl zkb_16 rfl ?_
      refine g_icmp_ge (pc' := 27) hc rfl rfl (fun hx => ?_) (fun hx => ?_)
      · replace h := zwp_t h hx
        replace h := zwp_r h
        exact h (some (.int x1)) rfl
      · replace h := zwp_f h hx
        refine g_iload_n (pc' := 28)  hc rfl rfl rfl ?_
        refine z_stat (as := [.int x1]) (r := []) hc rfl rfl rfl rfl zco_166 rfl rfl rfl ?_
        refine ok_X12_letters (zdp hd rfl) (zwp_mono (zwp_bind h) ?_)
        rintro r3 h
        refine z_po (pc' := 31) (st' := [.long r3]) (v := (some (.long r3))) (L' := []) (K' := []) zco_166 rfl rfl rfl rfl rfl rfl rfl rfl ?_
        refine g_aload_n (pc' := 32)  hc rfl rfl rfl rfl ?_
        refine z_getJ (pc' := 35) (v := (J 75 26)) hc rfl rfl rfl sh_75 rfl rfl rfl ?_
        refine g_lcmp (pc' := 36)  hc rfl rfl ?_
        refine g_if_ne (pc' := 39) hc rfl rfl (fun hx => ?_) (fun hx => ?_)
        · replace h := zwp_f h hx
          refine g_iinc (pc' := 44) (ls1 := [some (.ref 75), some (.int (x1 + (1 : Int32)))]) hc rfl rfl zki_1 (zlt rfl) rfl rfl ?_
          refine g_goto hc rfl ?_
          replace h := zwp_l h
          exact h
        · replace h := zwp_t h hx
          refine g_iload_n (pc' := 40)  hc rfl rfl rfl ?_
          replace h := zws h
          exact g_ireturn hc rfl rfl rfl (fun _ => ⟨rfl, rfl⟩) h
    · replace h := zwp_f h hx
      refine g_iconst (pc' := 18) (v := (-1 : Int32)) hc rfl zki_m1 rfl ?_
      replace h := zws h
      exact g_ireturn hc rfl rfl rfl (fun _ => ⟨rfl, rfl⟩) h
set_option maxRecDepth 4000 in
theorem ok_X12_isGood_75 {p q : Nat} {I : pI} {J : pJ} {Q : pQ} {d : Nat} (hd : 1 ≤ d) (h : zwp (f_X12_isGood (I 75 16)) (fun r => Q (.inl (some (.int r))) (zS p q I [] J []))) : pm_call M cost zext d 169 [.ref 75] (pm_st 108 (shp p q) I J) Q := by
  obtain ⟨d, rfl⟩ := zd1 hd rfl
  have hc := pm_call_m (M := M) (cost := cost) zext_m d
  refine z_in (L := []) (K := []) (ls := [some (.ref 75)]) zmt_169 zco_169 rfl rfl zid_n zid_n ?_
  delta f_X12_isGood at h
  refine g_aload_n (pc' := 1)  hc rfl rfl rfl rfl ?_
  refine z_getI (pc' := 4) (v := (I 75 16)) hc rfl rfl rfl sh_75 rfl rfl rfl ?_
  refine g_if_ne (pc' := 7) hc rfl rfl (fun hx => ?_) (fun hx => ?_)
  · replace h := zwp_f h hx
    refine g_iconst (pc' := 12) (v := (0 : Int32)) hc rfl zki_0 rfl ?_
    replace h := zws h
    exact g_ireturn hc rfl rfl rfl (fun _ => ⟨rfl, rfl⟩) h
  · replace h := zwp_t h hx
    refine g_iconst (pc' := 8) (v := (1 : Int32)) hc rfl zki_1 rfl ?_
    refine g_goto hc rfl ?_
    replace h := zws h
    exact g_ireturn hc rfl rfl rfl (fun _ => ⟨rfl, rfl⟩) h
set_option maxRecDepth 4000 in
theorem ok_X12_wrong_75 {p q : Nat} {I : pI} {J : pJ} {a1 : Int32} {Q : pQ} {d : Nat} (hd : 1 ≤ d) (h : zwp (f_X12_wrong a1 (I 75 16) (I 75 17) (I 75 22)) (fun w => match w with | (o0, o1) => Q (.inl none) (zS p q I [(75, some 16, fun _ => o0), (75, some 17, fun _ => o1)] J []))) : pm_call M cost zext d 168 [.ref 75, .int a1] (pm_st 108 (shp p q) I J) Q := by
  obtain ⟨d, rfl⟩ := zd1 hd rfl
  have hc := pm_call_m (M := M) (cost := cost) zext_m d
  refine z_in (L := [(75, some 16, fun _ => (I 75 16)), (75, some 17, fun _ => (I 75 17))]) (K := []) (ls := [some (.ref 75), some (.int a1)]) zmt_168 zco_168 rfl rfl (zid_s (zid_s zid_n)) zid_n ?_
  delta f_X12_wrong at h
  refine g_aload_n (pc' := 1)  hc rfl rfl rfl rfl ?_
  refine z_getI (pc' := 4) (v := (I 75 16)) hc rfl rfl rfl sh_75 rfl rfl rfl ?_
  refine g_if_eq (pc' := 7) hc rfl rfl (fun hx => ?_) (fun hx => ?_)
  · replace h := zwp_t h hx
    refine g_aload_n (pc' := 9)  hc rfl rfl rfl rfl ?_
    refine g_iload_n (pc' := 10)  hc rfl rfl rfl ?_
    refine z_putI (pc' := 13) (L' := [(75, some 16, fun _ => a1), (75, some 17, fun _ => (I 75 17))]) hc rfl rfl rfl sh_75 rfl zft_12_16 rfl (fun h => Bool.noConfusion h) rfl rfl rfl ?_
    refine g_aload_n (pc' := 14)  hc rfl rfl rfl rfl ?_
    refine g_aload_n (pc' := 15)  hc rfl rfl rfl rfl ?_
    refine z_getI (pc' := 18) (v := (I 75 22)) hc rfl rfl rfl sh_75 rfl rfl rfl ?_
    refine z_putI (pc' := 21) (L' := [(75, some 16, fun _ => a1), (75, some 17, fun _ => (I 75 22))]) hc rfl rfl rfl sh_75 rfl zft_12_17 rfl (fun h => Bool.noConfusion h) rfl rfl rfl ?_
    replace h := zws h
    exact g_return hc rfl rfl (fun _ => ⟨rfl, rfl⟩) h
  · replace h := zwp_f h hx
    replace h := zws h
    exact g_return hc rfl rfl (fun _ => ⟨rfl, rfl⟩) h
set_option maxRecDepth 4000 in
theorem ok_X12_number_75 {p q : Nat} {I : pI} {J : pJ} {a1 : Int32} {a2 : Int32} {Q : pQ} {d : Nat} (hd : 3 ≤ d) (h : zwp (f_X12_number a1 a2 (I 75 16) (I 75 17) (I 75 23) (I 75 19) (I 75 20) (I 75 22) (I 75 25) (I 75 21) (I 81) (I 75 24) (J 75 26)) (fun w => match w with | (r, o0, o1, o2, o3, o4, o5, o6, o7, o8) => Q (.inl (some (.int r))) (zS p q I [(75, some 16, fun _ => o0), (75, some 17, fun _ => o1), (75, some 20, fun _ => o3), (75, some 21, fun _ => o6), (75, some 22, fun _ => o4), (75, some 23, fun _ => o2), (75, some 24, fun _ => o7), (75, some 25, fun _ => o5)] J [(75, some 26, fun _ => o8)]))) : pm_call M cost zext d 172 [.ref 75, .int a1, .int a2] (pm_st 108 (shp p q) I J) Q := by
  obtain ⟨d, rfl⟩ := zd1 hd rfl
  have hc := pm_call_m (M := M) (cost := cost) zext_m d
  refine z_in (L := [(75, some 16, fun _ => (I 75 16)), (75, some 17, fun _ => (I 75 17)), (75, some 20, fun _ => (I 75 20)), (75, some 21, fun _ => (I 75 21)), (75, some 22, fun _ => (I 75 22)), (75, some 23, fun _ => (I 75 23)), (75, some 24, fun _ => (I 75 24)), (75, some 25, fun _ => (I 75 25))]) (K := [(75, some 26, fun _ => (J 75 26))]) (ls := [some (.ref 75), some (.int a1), some (.int a2), none]) zmt_172 zco_172 rfl rfl (zid_s (zid_s (zid_s (zid_s (zid_s (zid_s (zid_s (zid_s zid_n)))))))) (zid_s zid_n) ?_
  delta f_X12_number at h
  refine g_aload_n (pc' := 1)  hc rfl rfl rfl rfl ?_
  refine z_virt (as := []) (a := 75) (r := []) hc rfl rfl rfl rfl sh_75 rfl zco_169 rfl rfl rfl ?_
  refine ok_X12_isGood_75 (zdp hd rfl) (zwp_mono (zwp_bind h) ?_)
  rintro r1 h
  refine z_po (pc' := 4) (st' := [.int r1]) (v := (some (.int r1))) (L' := [(75, some 16, fun _ => (I 75 16)), (75, some 17, fun _ => (I 75 17)), (75, some 20, fun _ => (I 75 20)), (75, some 21, fun _ => (I 75 21)), (75, some 22, fun _ => (I 75 22)), (75, some 23, fun _ => (I 75 23)), (75, some 24, fun _ => (I 75 24)), (75, some 25, fun _ => (I 75 25))]) (K' := [(75, some 26, fun _ => (J 75 26))]) zco_169 rfl rfl rfl rfl rfl rfl rfl rfl ?_
  refine g_if_ne (pc' := 7) hc rfl rfl (fun hx => ?_) (fun hx => ?_)
  · replace h := zwp_f h hx
    refine g_aload_n (pc' := 10)  hc rfl rfl rfl rfl ?_
    refine z_getI (pc' := 13) (v := (I 75 21)) hc rfl rfl rfl sh_75 rfl rfl rfl ?_
    refine g_iconst (pc' := 14) (v := (2 : Int32)) hc rfl zki_2 rfl ?_
    refine zjn (G := (fun (g : Int32 × Int32) => match g with | (j2, j3) => pm_ev C_X12_number (d + 1) (pm_call M cost zext d) cost (false, false) 108 0 0 Q 54 [some (.ref 75), some (.int a1), some (.int a2), none] [] 0 0 (zS p q I [(75, some 16, fun _ => j2), (75, some 17, fun _ => j3), (75, some 20, fun _ => (I 75 20)), (75, some 21, fun _ => (I 75 21)), (75, some 22, fun _ => (I 75 22)), (75, some 23, fun _ => (I 75 23)), (75, some 24, fun _ => (I 75 24)), (75, some 25, fun _ => (I 75 25))] J [(75, some 26, fun _ => (J 75 26))]))) (zwp_bind h) ?_ (fun h => ?_)
    · rintro ⟨j2, j3⟩ h
      refine g_aload_n (pc' := 55)  hc rfl rfl rfl rfl ?_
      refine z_getI (pc' := 58) (v := (I 75 24)) hc rfl rfl rfl sh_75 rfl rfl rfl ?_
      refine g_istore_n (pc' := 59) (ls1 := [some (.ref 75), some (.int a1), some (.int a2), some (.int (I 75 24))]) hc rfl (zlt rfl) rfl rfl ?_
      refine g_aload_n (pc' := 60)  hc rfl rfl rfl rfl ?_
      refine z_virt (as := []) (a := 75) (r := []) hc rfl rfl rfl rfl sh_75 rfl zco_169 rfl rfl rfl ?_
      refine ok_X12_isGood_75 (zdp hd rfl) (zwp_mono (zwp_bind h) ?_)
      rintro r4 h
      refine z_po (pc' := 63) (st' := [.int r4]) (v := (some (.int r4))) (L' := [(75, some 16, fun _ => j2), (75, some 17, fun _ => j3), (75, some 20, fun _ => (I 75 20)), (75, some 21, fun _ => (I 75 21)), (75, some 22, fun _ => (I 75 22)), (75, some 23, fun _ => (I 75 23)), (75, some 24, fun _ => (I 75 24)), (75, some 25, fun _ => (I 75 25))]) (K' := [(75, some 26, fun _ => (J 75 26))]) zco_169 rfl rfl rfl rfl rfl rfl rfl rfl ?_
      refine g_if_eq (pc' := 66) hc rfl rfl (fun hx => ?_) (fun hx => ?_)
      · replace h := zwp_t h hx
        refine g_iload_n (pc' := 71)  hc rfl rfl rfl ?_
        replace h := zws h
        exact g_ireturn hc rfl rfl rfl (fun _ => ⟨rfl, rfl⟩) h
      · replace h := zwp_f h hx
        refine g_aload_n (pc' := 67)  hc rfl rfl rfl rfl ?_
        refine z_virt (as := []) (a := 75) (r := []) hc rfl rfl rfl rfl sh_75 rfl zco_164 rfl rfl rfl ?_
        refine ok_X12_goes_75 (zdp hd rfl) (zwp_mono (zwp_bind h) ?_)
        rintro ⟨o5, o6, o7, o8, o9, o10, o11⟩ h
        refine z_po (pc' := 70) (st' := []) (v := none) (L' := [(75, some 16, fun _ => j2), (75, some 17, fun _ => j3), (75, some 20, fun _ => o6), (75, some 21, fun _ => o9), (75, some 22, fun _ => o7), (75, some 23, fun _ => o5), (75, some 24, fun _ => o10), (75, some 25, fun _ => o8)]) (K' := [(75, some 26, fun _ => o11)]) zco_164 rfl rfl rfl rfl rfl rfl rfl rfl ?_
        refine g_iload_n (pc' := 71)  hc rfl rfl rfl ?_
        replace h := zws h
        exact g_ireturn hc rfl rfl rfl (fun _ => ⟨rfl, rfl⟩) h
    refine g_icmp_eq (pc' := 17) hc rfl rfl (fun hx => ?_) (fun hx => ?_)
    · replace h := zwp_t h hx
      refine g_aload_n (pc' := 26)  hc rfl rfl rfl rfl ?_
      refine z_getI (pc' := 29) (v := (I 75 23)) hc rfl rfl rfl sh_75 rfl rfl rfl ?_
      refine g_iconst (pc' := 30) (v := (4 : Int32)) hc rfl zki_4 rfl ?_
      refine g_icmp_gt (pc' := 33) hc rfl rfl (fun hx => ?_) (fun hx => ?_)
      · replace h := zwp_t h hx
        refine g_aload_n (pc' := 50)  hc rfl rfl rfl rfl ?_
        refine g_iconst (pc' := 51) (v := (2 : Int32)) hc rfl zki_2 rfl ?_
        refine z_virt (as := [.int (2 : Int32)]) (a := 75) (r := []) hc rfl rfl rfl rfl sh_75 rfl zco_168 rfl rfl rfl ?_
        refine ok_X12_wrong_75 (zdp hd rfl) (zwp_mono (zwp_bind h) ?_)
        rintro ⟨o12, o13⟩ h
        refine z_po (pc' := 54) (st' := []) (v := none) (L' := [(75, some 16, fun _ => o12), (75, some 17, fun _ => o13), (75, some 20, fun _ => (I 75 20)), (75, some 21, fun _ => (I 75 21)), (75, some 22, fun _ => (I 75 22)), (75, some 23, fun _ => (I 75 23)), (75, some 24, fun _ => (I 75 24)), (75, some 25, fun _ => (I 75 25))]) (K' := [(75, some 26, fun _ => (J 75 26))]) zco_168 rfl rfl rfl rfl rfl rfl rfl rfl ?_
        replace h := zws h
        exact h
      · replace h := zwp_f h hx
        refine g_aload_n (pc' := 34)  hc rfl rfl rfl rfl ?_
        refine z_getI (pc' := 37) (v := (I 75 24)) hc rfl rfl rfl sh_75 rfl rfl rfl ?_
        refine g_iload_n (pc' := 38)  hc rfl rfl rfl ?_
        refine g_icmp_lt (pc' := 41) hc rfl rfl (fun hx => ?_) (fun hx => ?_)
        · replace h := zwp_t h hx
          refine g_aload_n (pc' := 50)  hc rfl rfl rfl rfl ?_
          refine g_iconst (pc' := 51) (v := (2 : Int32)) hc rfl zki_2 rfl ?_
          refine z_virt (as := [.int (2 : Int32)]) (a := 75) (r := []) hc rfl rfl rfl rfl sh_75 rfl zco_168 rfl rfl rfl ?_
          refine ok_X12_wrong_75 (zdp hd rfl) (zwp_mono (zwp_bind h) ?_)
          rintro ⟨o14, o15⟩ h
          refine z_po (pc' := 54) (st' := []) (v := none) (L' := [(75, some 16, fun _ => o14), (75, some 17, fun _ => o15), (75, some 20, fun _ => (I 75 20)), (75, some 21, fun _ => (I 75 21)), (75, some 22, fun _ => (I 75 22)), (75, some 23, fun _ => (I 75 23)), (75, some 24, fun _ => (I 75 24)), (75, some 25, fun _ => (I 75 25))]) (K' := [(75, some 26, fun _ => (J 75 26))]) zco_168 rfl rfl rfl rfl rfl rfl rfl rfl ?_
          replace h := zws h
          exact h
        · replace h := zwp_f h hx
          refine g_aload_n (pc' := 42)  hc rfl rfl rfl rfl ?_
          refine z_getI (pc' := 45) (v := (I 75 24)) hc rfl rfl rfl sh_75 rfl rfl rfl ?_
          refine g_iload_n (pc' := 46)  hc rfl rfl rfl ?_
          refine g_icmp_le (pc' := 49) hc rfl rfl (fun hx => ?_) (fun hx => ?_)
          · replace h := zwp_t h hx
            replace h := zws h
            exact h
          · replace h := zwp_f h hx
            refine g_aload_n (pc' := 50)  hc rfl rfl rfl rfl ?_
            refine g_iconst (pc' := 51) (v := (2 : Int32)) hc rfl zki_2 rfl ?_
            refine z_virt (as := [.int (2 : Int32)]) (a := 75) (r := []) hc rfl rfl rfl rfl sh_75 rfl zco_168 rfl rfl rfl ?_
            refine ok_X12_wrong_75 (zdp hd rfl) (zwp_mono (zwp_bind h) ?_)
            rintro ⟨o16, o17⟩ h
            refine z_po (pc' := 54) (st' := []) (v := none) (L' := [(75, some 16, fun _ => o16), (75, some 17, fun _ => o17), (75, some 20, fun _ => (I 75 20)), (75, some 21, fun _ => (I 75 21)), (75, some 22, fun _ => (I 75 22)), (75, some 23, fun _ => (I 75 23)), (75, some 24, fun _ => (I 75 24)), (75, some 25, fun _ => (I 75 25))]) (K' := [(75, some 26, fun _ => (J 75 26))]) zco_168 rfl rfl rfl rfl rfl rfl rfl rfl ?_
            replace h := zws h
            exact h
    · replace h := zwp_f h hx
      refine g_aload_n (pc' := 18)  hc rfl rfl rfl rfl ?_
      refine g_iconst (pc' := 19) (v := (1 : Int32)) hc rfl zki_1 rfl ?_
      refine z_virt (as := [.int (1 : Int32)]) (a := 75) (r := []) hc rfl rfl rfl rfl sh_75 rfl zco_168 rfl rfl rfl ?_
      refine ok_X12_wrong_75 (zdp hd rfl) (zwp_mono (zwp_bind h) ?_)
      rintro ⟨o18, o19⟩ h
      refine z_po (pc' := 22) (st' := []) (v := none) (L' := [(75, some 16, fun _ => o18), (75, some 17, fun _ => o19), (75, some 20, fun _ => (I 75 20)), (75, some 21, fun _ => (I 75 21)), (75, some 22, fun _ => (I 75 22)), (75, some 23, fun _ => (I 75 23)), (75, some 24, fun _ => (I 75 24)), (75, some 25, fun _ => (I 75 25))]) (K' := [(75, some 26, fun _ => (J 75 26))]) zco_168 rfl rfl rfl rfl rfl rfl rfl rfl ?_
      refine g_goto hc rfl ?_
      replace h := zws h
      exact h
  · replace h := zwp_t h hx
    refine g_iconst (pc' := 8) (v := (0 : Int32)) hc rfl zki_0 rfl ?_
    replace h := zws h
    exact g_ireturn hc rfl rfl rfl (fun _ => ⟨rfl, rfl⟩) h
set_option maxRecDepth 4000 in
theorem ok_X12_isSign_75 {p q : Nat} {I : pI} {J : pJ} {a1 : Int32} {Q : pQ} {d : Nat} (hd : 1 ≤ d) (h : zwp (f_X12_isSign a1 (I 75 25) (I 75 21)) (fun r => Q (.inl (some (.int r))) (zS p q I [] J []))) : pm_call M cost zext d 170 [.ref 75, .int a1] (pm_st 108 (shp p q) I J) Q := by
  obtain ⟨d, rfl⟩ := zd1 hd rfl
  have hc := pm_call_m (M := M) (cost := cost) zext_m d
  refine z_in (L := []) (K := []) (ls := [some (.ref 75), some (.int a1)]) zmt_170 zco_170 rfl rfl zid_n zid_n ?_
  delta f_X12_isSign at h
  refine g_aload_n (pc' := 1)  hc rfl rfl rfl rfl ?_
  refine z_getI (pc' := 4) (v := (I 75 21)) hc rfl rfl rfl sh_75 rfl rfl rfl ?_
  refine g_iconst (pc' := 5) (v := (3 : Int32)) hc rfl zki_3 rfl ?_
  refine g_icmp_ne (pc' := 8) hc rfl rfl (fun hx => ?_) (fun hx => ?_)
  · replace h := zwp_f h hx
    refine g_iconst (pc' := 21) (v := (0 : Int32)) hc rfl zki_0 rfl ?_
    replace h := zws h
    exact g_ireturn hc rfl rfl rfl (fun _ => ⟨rfl, rfl⟩) h
  · replace h := zwp_t h hx
    refine g_aload_n (pc' := 9)  hc rfl rfl rfl rfl ?_
    refine z_getI (pc' := 12) (v := (I 75 25)) hc rfl rfl rfl sh_75 rfl rfl rfl ?_
    refine g_iload_n (pc' := 13)  hc rfl rfl rfl ?_
    refine g_icmp_ne (pc' := 16) hc rfl rfl (fun hx => ?_) (fun hx => ?_)
    · replace h := zwp_f h hx
      refine g_iconst (pc' := 21) (v := (0 : Int32)) hc rfl zki_0 rfl ?_
      replace h := zws h
      exact g_ireturn hc rfl rfl rfl (fun _ => ⟨rfl, rfl⟩) h
    · replace h := zwp_t h hx
      refine g_iconst (pc' := 17) (v := (1 : Int32)) hc rfl zki_1 rfl ?_
      refine g_goto hc rfl ?_
      replace h := zws h
      exact g_ireturn hc rfl rfl rfl (fun _ => ⟨rfl, rfl⟩) h
set_option maxRecDepth 4000 in
theorem ok_X12_need_75 {p q : Nat} {I : pI} {J : pJ} {a1 : Int32} {Q : pQ} {d : Nat} (hd : 3 ≤ d) (h : zwp (f_X12_need a1 (I 75 16) (I 75 17) (I 75 23) (I 75 19) (I 75 20) (I 75 22) (I 75 25) (I 75 21) (I 81) (I 75 24) (J 75 26)) (fun w => match w with | (o0, o1, o2, o3, o4, o5, o6, o7, o8) => Q (.inl none) (zS p q I [(75, some 16, fun _ => o0), (75, some 17, fun _ => o1), (75, some 20, fun _ => o3), (75, some 21, fun _ => o6), (75, some 22, fun _ => o4), (75, some 23, fun _ => o2), (75, some 24, fun _ => o7), (75, some 25, fun _ => o5)] J [(75, some 26, fun _ => o8)]))) : pm_call M cost zext d 171 [.ref 75, .int a1] (pm_st 108 (shp p q) I J) Q := by
  obtain ⟨d, rfl⟩ := zd1 hd rfl
  have hc := pm_call_m (M := M) (cost := cost) zext_m d
  refine z_in (L := [(75, some 16, fun _ => (I 75 16)), (75, some 17, fun _ => (I 75 17)), (75, some 20, fun _ => (I 75 20)), (75, some 21, fun _ => (I 75 21)), (75, some 22, fun _ => (I 75 22)), (75, some 23, fun _ => (I 75 23)), (75, some 24, fun _ => (I 75 24)), (75, some 25, fun _ => (I 75 25))]) (K := [(75, some 26, fun _ => (J 75 26))]) (ls := [some (.ref 75), some (.int a1)]) zmt_171 zco_171 rfl rfl (zid_s (zid_s (zid_s (zid_s (zid_s (zid_s (zid_s (zid_s zid_n)))))))) (zid_s zid_n) ?_
  delta f_X12_need at h
  refine g_aload_n (pc' := 1)  hc rfl rfl rfl rfl ?_
  refine z_virt (as := []) (a := 75) (r := []) hc rfl rfl rfl rfl sh_75 rfl zco_169 rfl rfl rfl ?_
  refine ok_X12_isGood_75 (zdp hd rfl) (zwp_mono (zwp_bind h) ?_)
  rintro r1 h
  refine z_po (pc' := 4) (st' := [.int r1]) (v := (some (.int r1))) (L' := [(75, some 16, fun _ => (I 75 16)), (75, some 17, fun _ => (I 75 17)), (75, some 20, fun _ => (I 75 20)), (75, some 21, fun _ => (I 75 21)), (75, some 22, fun _ => (I 75 22)), (75, some 23, fun _ => (I 75 23)), (75, some 24, fun _ => (I 75 24)), (75, some 25, fun _ => (I 75 25))]) (K' := [(75, some 26, fun _ => (J 75 26))]) zco_169 rfl rfl rfl rfl rfl rfl rfl rfl ?_
  refine g_if_ne (pc' := 7) hc rfl rfl (fun hx => ?_) (fun hx => ?_)
  · replace h := zwp_f h hx
    refine g_iload_n (pc' := 9)  hc rfl rfl rfl ?_
    refine g_if_eq (pc' := 12) hc rfl rfl (fun hx => ?_) (fun hx => ?_)
    · replace h := zwp_t h hx
      refine g_aload_n (pc' := 20)  hc rfl rfl rfl rfl ?_
      refine g_iconst (pc' := 21) (v := (1 : Int32)) hc rfl zki_1 rfl ?_
      refine z_virt (as := [.int (1 : Int32)]) (a := 75) (r := []) hc rfl rfl rfl rfl sh_75 rfl zco_168 rfl rfl rfl ?_
      refine ok_X12_wrong_75 (zdp hd rfl) (zwp_mono (zwp_bind h) ?_)
      rintro ⟨o2, o3⟩ h
      refine z_po (pc' := 24) (st' := []) (v := none) (L' := [(75, some 16, fun _ => o2), (75, some 17, fun _ => o3), (75, some 20, fun _ => (I 75 20)), (75, some 21, fun _ => (I 75 21)), (75, some 22, fun _ => (I 75 22)), (75, some 23, fun _ => (I 75 23)), (75, some 24, fun _ => (I 75 24)), (75, some 25, fun _ => (I 75 25))]) (K' := [(75, some 26, fun _ => (J 75 26))]) zco_168 rfl rfl rfl rfl rfl rfl rfl rfl ?_
      replace h := zws h
      exact g_return hc rfl rfl (fun _ => ⟨rfl, rfl⟩) h
    · replace h := zwp_f h hx
      refine g_aload_n (pc' := 13)  hc rfl rfl rfl rfl ?_
      refine z_virt (as := []) (a := 75) (r := []) hc rfl rfl rfl rfl sh_75 rfl zco_164 rfl rfl rfl ?_
      refine ok_X12_goes_75 (zdp hd rfl) (zwp_mono (zwp_bind h) ?_)
      rintro ⟨o4, o5, o6, o7, o8, o9, o10⟩ h
      refine z_po (pc' := 16) (st' := []) (v := none) (L' := [(75, some 16, fun _ => (I 75 16)), (75, some 17, fun _ => (I 75 17)), (75, some 20, fun _ => o5), (75, some 21, fun _ => o8), (75, some 22, fun _ => o6), (75, some 23, fun _ => o4), (75, some 24, fun _ => o9), (75, some 25, fun _ => o7)]) (K' := [(75, some 26, fun _ => o10)]) zco_164 rfl rfl rfl rfl rfl rfl rfl rfl ?_
      refine g_goto hc rfl ?_
      replace h := zws h
      exact g_return hc rfl rfl (fun _ => ⟨rfl, rfl⟩) h
  · replace h := zwp_t h hx
    replace h := zws h
    exact g_return hc rfl rfl (fun _ => ⟨rfl, rfl⟩) h
set_option maxRecDepth 4000 in
theorem ok_X12_begins_75 {p q : Nat} {I : pI} {J : pJ} {a1 : Int32} {a2 : Int32} {Q : pQ} {d : Nat} (hd : 3 ≤ d) (h : zwp (f_X12_begins a1 a2 (I 75 16) (I 75 17) (I 75 23) (I 75 19) (I 75 20) (I 75 22) (I 75 25) (I 75 21) (I 81) (I 75 24) (J 75 26)) (fun w => match w with | (r, o0, o1, o2, o3, o4, o5, o6, o7, o8) => Q (.inl (some (.int r))) (zS p q I [(75, some 16, fun _ => o0), (75, some 17, fun _ => o1), (75, some 20, fun _ => o3), (75, some 21, fun _ => o6), (75, some 22, fun _ => o4), (75, some 23, fun _ => o2), (75, some 24, fun _ => o7), (75, some 25, fun _ => o5)] J [(75, some 26, fun _ => o8)]))) : pm_call M cost zext d 185 [.ref 75, .int a1, .int a2] (pm_st 108 (shp p q) I J) Q := by
  obtain ⟨d, rfl⟩ := zd1 hd rfl
  have hc := pm_call_m (M := M) (cost := cost) zext_m d
  refine z_in (L := [(75, some 16, fun _ => (I 75 16)), (75, some 17, fun _ => (I 75 17)), (75, some 20, fun _ => (I 75 20)), (75, some 21, fun _ => (I 75 21)), (75, some 22, fun _ => (I 75 22)), (75, some 23, fun _ => (I 75 23)), (75, some 24, fun _ => (I 75 24)), (75, some 25, fun _ => (I 75 25))]) (K := [(75, some 26, fun _ => (J 75 26))]) (ls := [some (.ref 75), some (.int a1), some (.int a2)]) zmt_185 zco_185 rfl rfl (zid_s (zid_s (zid_s (zid_s (zid_s (zid_s (zid_s (zid_s zid_n)))))))) (zid_s zid_n) ?_
  delta f_X12_begins at h
  refine g_iload_n (pc' := 1)  hc rfl rfl rfl ?_
  refine zjn (G := (fun (g : Int32 × Int32) => match g with | (j1, j2) => pm_ev C_X12_begins (d + 1) (pm_call M cost zext d) cost (false, false) 108 0 0 Q 9 [some (.ref 75), some (.int a1), some (.int a2)] [] 0 0 (zS p q I [(75, some 16, fun _ => j1), (75, some 17, fun _ => j2), (75, some 20, fun _ => (I 75 20)), (75, some 21, fun _ => (I 75 21)), (75, some 22, fun _ => (I 75 22)), (75, some 23, fun _ => (I 75 23)), (75, some 24, fun _ => (I 75 24)), (75, some 25, fun _ => (I 75 25))] J [(75, some 26, fun _ => (J 75 26))]))) (zwp_bind h) ?_ (fun h => ?_)
  · rintro ⟨j1, j2⟩ h
    refine g_iload_n (pc' := 10)  hc rfl rfl rfl ?_
    refine zjn (G := (fun (g : Int32 × Int32) => match g with | (j3, j4) => pm_ev C_X12_begins (d + 1) (pm_call M cost zext d) cost (false, false) 108 0 0 Q 18 [some (.ref 75), some (.int a1), some (.int a2)] [] 0 0 (zS p q I [(75, some 16, fun _ => j3), (75, some 17, fun _ => j4), (75, some 20, fun _ => (I 75 20)), (75, some 21, fun _ => (I 75 21)), (75, some 22, fun _ => (I 75 22)), (75, some 23, fun _ => (I 75 23)), (75, some 24, fun _ => (I 75 24)), (75, some 25, fun _ => (I 75 25))] J [(75, some 26, fun _ => (J 75 26))]))) (zwp_bind h) ?_ (fun h => ?_)
    · rintro ⟨j3, j4⟩ h
      refine g_aload_n (pc' := 19)  hc rfl rfl rfl rfl ?_
      refine z_virt (as := []) (a := 75) (r := []) hc rfl rfl rfl rfl sh_75 rfl zco_169 rfl rfl rfl ?_
      refine ok_X12_isGood_75 (zdp hd rfl) (zwp_mono (zwp_bind h) ?_)
      rintro r5 h
      refine z_po (pc' := 22) (st' := [.int r5]) (v := (some (.int r5))) (L' := [(75, some 16, fun _ => j3), (75, some 17, fun _ => j4), (75, some 20, fun _ => (I 75 20)), (75, some 21, fun _ => (I 75 21)), (75, some 22, fun _ => (I 75 22)), (75, some 23, fun _ => (I 75 23)), (75, some 24, fun _ => (I 75 24)), (75, some 25, fun _ => (I 75 25))]) (K' := [(75, some 26, fun _ => (J 75 26))]) zco_169 rfl rfl rfl rfl rfl rfl rfl rfl ?_
      refine g_if_ne (pc' := 25) hc rfl rfl (fun hx => ?_) (fun hx => ?_)
      · replace h := zwp_f h hx
        refine g_aload_n (pc' := 28)  hc rfl rfl rfl rfl ?_
        refine z_virt (as := []) (a := 75) (r := []) hc rfl rfl rfl rfl sh_75 rfl zco_164 rfl rfl rfl ?_
        refine ok_X12_goes_75 (zdp hd rfl) (zwp_mono (zwp_bind h) ?_)
        rintro ⟨o6, o7, o8, o9, o10, o11, o12⟩ h
        refine z_po (pc' := 31) (st' := []) (v := none) (L' := [(75, some 16, fun _ => j3), (75, some 17, fun _ => j4), (75, some 20, fun _ => o7), (75, some 21, fun _ => o10), (75, some 22, fun _ => o8), (75, some 23, fun _ => o6), (75, some 24, fun _ => o11), (75, some 25, fun _ => o9)]) (K' := [(75, some 26, fun _ => o12)]) zco_164 rfl rfl rfl rfl rfl rfl rfl rfl ?_
        refine g_iconst (pc' := 32) (v := (1 : Int32)) hc rfl zki_1 rfl ?_
        replace h := zws h
        exact g_ireturn hc rfl rfl rfl (fun _ => ⟨rfl, rfl⟩) h
      · replace h := zwp_t h hx
        refine g_iconst (pc' := 26) (v := (0 : Int32)) hc rfl zki_0 rfl ?_
        replace h := zws h
        exact g_ireturn hc rfl rfl rfl (fun _ => ⟨rfl, rfl⟩) h
    refine g_if_eq (pc' := 13) hc rfl rfl (fun hx => ?_) (fun hx => ?_)
    · replace h := zwp_t h hx
      replace h := zws h
      exact h
    · replace h := zwp_f h hx
      refine g_aload_n (pc' := 14)  hc rfl rfl rfl rfl ?_
      refine g_iconst (pc' := 15) (v := (5 : Int32)) hc rfl zki_5 rfl ?_
      refine z_virt (as := [.int (5 : Int32)]) (a := 75) (r := []) hc rfl rfl rfl rfl sh_75 rfl zco_168 rfl rfl rfl ?_
      refine ok_X12_wrong_75 (zdp hd rfl) (zwp_mono (zwp_bind h) ?_)
      rintro ⟨o13, o14⟩ h
      refine z_po (pc' := 18) (st' := []) (v := none) (L' := [(75, some 16, fun _ => o13), (75, some 17, fun _ => o14), (75, some 20, fun _ => (I 75 20)), (75, some 21, fun _ => (I 75 21)), (75, some 22, fun _ => (I 75 22)), (75, some 23, fun _ => (I 75 23)), (75, some 24, fun _ => (I 75 24)), (75, some 25, fun _ => (I 75 25))]) (K' := [(75, some 26, fun _ => (J 75 26))]) zco_168 rfl rfl rfl rfl rfl rfl rfl rfl ?_
      replace h := zws h
      exact h
  refine g_if_eq (pc' := 4) hc rfl rfl (fun hx => ?_) (fun hx => ?_)
  · replace h := zwp_t h hx
    replace h := zws h
    exact h
  · replace h := zwp_f h hx
    refine g_aload_n (pc' := 5)  hc rfl rfl rfl rfl ?_
    refine g_iconst (pc' := 6) (v := (2 : Int32)) hc rfl zki_2 rfl ?_
    refine z_virt (as := [.int (2 : Int32)]) (a := 75) (r := []) hc rfl rfl rfl rfl sh_75 rfl zco_168 rfl rfl rfl ?_
    refine ok_X12_wrong_75 (zdp hd rfl) (zwp_mono (zwp_bind h) ?_)
    rintro ⟨o15, o16⟩ h
    refine z_po (pc' := 9) (st' := []) (v := none) (L' := [(75, some 16, fun _ => o15), (75, some 17, fun _ => o16), (75, some 20, fun _ => (I 75 20)), (75, some 21, fun _ => (I 75 21)), (75, some 22, fun _ => (I 75 22)), (75, some 23, fun _ => (I 75 23)), (75, some 24, fun _ => (I 75 24)), (75, some 25, fun _ => (I 75 25))]) (K' := [(75, some 26, fun _ => (J 75 26))]) zco_168 rfl rfl rfl rfl rfl rfl rfl rfl ?_
    replace h := zws h
    exact h
set_option maxRecDepth 4000 in
theorem ok_X12_cellHere_75 {p q : Nat} {I : pI} {J : pJ} {Q : pQ} {d : Nat} (hd : 2 ≤ d) (h : zwp (f_X12_cellHere (I 75 16) (I 75 17) (I 75 23) (I 87) (I 75 28) (I 75 27) (I 75 22) (I 75 21) (I 75 24)) (fun w => match w with | (r, o0, o1) => Q (.inl (some (.int r))) (zS p q I [(75, some 16, fun _ => o0), (75, some 17, fun _ => o1)] J []))) : pm_call M cost zext d 173 [.ref 75] (pm_st 108 (shp p q) I J) Q := by
  obtain ⟨d, rfl⟩ := zd1 hd rfl
  have hc := pm_call_m (M := M) (cost := cost) zext_m d
  refine z_in (L := [(75, some 16, fun _ => (I 75 16)), (75, some 17, fun _ => (I 75 17))]) (K := []) (ls := [some (.ref 75)]) zmt_173 zco_173 rfl rfl (zid_s (zid_s zid_n)) zid_n ?_
  delta f_X12_cellHere at h
  refine g_aload_n (pc' := 1)  hc rfl rfl rfl rfl ?_
  refine z_virt (as := []) (a := 75) (r := []) hc rfl rfl rfl rfl sh_75 rfl zco_169 rfl rfl rfl ?_
  refine ok_X12_isGood_75 (zdp hd rfl) (zwp_mono (zwp_bind h) ?_)
  rintro r1 h
  refine z_po (pc' := 4) (st' := [.int r1]) (v := (some (.int r1))) (L' := [(75, some 16, fun _ => (I 75 16)), (75, some 17, fun _ => (I 75 17))]) (K' := []) zco_169 rfl rfl rfl rfl rfl rfl rfl rfl ?_
  refine g_if_ne (pc' := 7) hc rfl rfl (fun hx => ?_) (fun hx => ?_)
  · replace h := zwp_f h hx
    refine g_aload_n (pc' := 10)  hc rfl rfl rfl rfl ?_
    refine z_getI (pc' := 13) (v := (I 75 21)) hc rfl rfl rfl sh_75 rfl rfl rfl ?_
    refine g_iconst (pc' := 14) (v := (2 : Int32)) hc rfl zki_2 rfl ?_
    refine zjn (G := (fun (g : Int32 × Int32) => match g with | (j2, j3) => pm_ev C_X12_cellHere (d + 1) (pm_call M cost zext d) cost (false, false) 108 0 0 Q 86 [some (.ref 75)] [] 0 0 (zS p q I [(75, some 16, fun _ => j2), (75, some 17, fun _ => j3)] J []))) (zwp_bind h) ?_ (fun h => ?_)
    · rintro ⟨j2, j3⟩ h
      refine g_aload_n (pc' := 87)  hc rfl rfl rfl rfl ?_
      refine z_getI (pc' := 90) (v := (I 75 24)) hc rfl rfl rfl sh_75 rfl rfl rfl ?_
      replace h := zws h
      exact g_ireturn hc rfl rfl rfl (fun _ => ⟨rfl, rfl⟩) h
    refine g_icmp_eq (pc' := 17) hc rfl rfl (fun hx => ?_) (fun hx => ?_)
    · replace h := zwp_t h hx
      refine g_aload_n (pc' := 26)  hc rfl rfl rfl rfl ?_
      refine z_getI (pc' := 29) (v := (I 75 23)) hc rfl rfl rfl sh_75 rfl rfl rfl ?_
      refine g_iconst (pc' := 30) (v := (4 : Int32)) hc rfl zki_4 rfl ?_
      refine g_icmp_le (pc' := 33) hc rfl rfl (fun hx => ?_) (fun hx => ?_)
      · replace h := zwp_t h hx
        refine g_aload_n (pc' := 42)  hc rfl rfl rfl rfl ?_
        refine z_getI (pc' := 45) (v := (I 75 24)) hc rfl rfl rfl sh_75 rfl rfl rfl ?_
        refine g_aload_n (pc' := 46)  hc rfl rfl rfl rfl ?_
        refine z_getI (pc' := 49) (v := (I 75 27)) hc rfl rfl rfl sh_75 rfl rfl rfl ?_
        refine g_aload_n (pc' := 50)  hc rfl rfl rfl rfl ?_
        refine z_getI (pc' := 53) (v := (I 75 28)) hc rfl rfl rfl sh_75 rfl rfl rfl ?_
        refine g_imul (pc' := 54)  hc rfl rfl ?_
        refine g_icmp_lt (pc' := 57) hc rfl rfl (fun hx => ?_) (fun hx => ?_)
        · replace h := zwp_t h hx
          refine g_aload_n (pc' := 66)  hc rfl rfl rfl rfl ?_
          refine z_getR (pc' := 69)  hc rfl rfl rfl sh_75 rfl rfl ?_
          refine g_bipush (pc' := 71) (v := (33 : Int32)) hc rfl zkb_33 rfl ?_
          refine g_aload_n (pc' := 72)  hc rfl rfl rfl rfl ?_
          refine z_getI (pc' := 75) (v := (I 75 24)) hc rfl rfl rfl sh_75 rfl rfl rfl ?_
          refine g_iadd (pc' := 76)  hc rfl rfl ?_
          have hb := (zwp_bnd h).1
          replace h := (zwp_bnd h).2
          refine z_iaload (pc' := 77) (v := (((I 87)) ((33 : Int32) + ((I 75 24))).toNatClampNeg)) hc rfl rfl sh_87 hb rfl rfl ?_
          refine g_iconst (pc' := 78) (v := (1 : Int32)) hc rfl zki_1 rfl ?_
          refine g_icmp_ne (pc' := 81) hc rfl rfl (fun hx => ?_) (fun hx => ?_)
          · replace h := zwp_f h hx
            replace h := zws h
            exact h
          · replace h := zwp_t h hx
            refine g_aload_n (pc' := 82)  hc rfl rfl rfl rfl ?_
            refine g_iconst (pc' := 83) (v := (4 : Int32)) hc rfl zki_4 rfl ?_
            refine z_virt (as := [.int (4 : Int32)]) (a := 75) (r := []) hc rfl rfl rfl rfl sh_75 rfl zco_168 rfl rfl rfl ?_
            refine ok_X12_wrong_75 (zdp hd rfl) (zwp_mono (zwp_bind h) ?_)
            rintro ⟨o4, o5⟩ h
            refine z_po (pc' := 86) (st' := []) (v := none) (L' := [(75, some 16, fun _ => o4), (75, some 17, fun _ => o5)]) (K' := []) zco_168 rfl rfl rfl rfl rfl rfl rfl rfl ?_
            replace h := zws h
            exact h
        · replace h := zwp_f h hx
          refine g_aload_n (pc' := 58)  hc rfl rfl rfl rfl ?_
          refine g_iconst (pc' := 59) (v := (3 : Int32)) hc rfl zki_3 rfl ?_
          refine z_virt (as := [.int (3 : Int32)]) (a := 75) (r := []) hc rfl rfl rfl rfl sh_75 rfl zco_168 rfl rfl rfl ?_
          refine ok_X12_wrong_75 (zdp hd rfl) (zwp_mono (zwp_bind h) ?_)
          rintro ⟨o6, o7⟩ h
          refine z_po (pc' := 62) (st' := []) (v := none) (L' := [(75, some 16, fun _ => o6), (75, some 17, fun _ => o7)]) (K' := []) zco_168 rfl rfl rfl rfl rfl rfl rfl rfl ?_
          refine g_goto hc rfl ?_
          replace h := zws h
          exact h
      · replace h := zwp_f h hx
        refine g_aload_n (pc' := 34)  hc rfl rfl rfl rfl ?_
        refine g_iconst (pc' := 35) (v := (2 : Int32)) hc rfl zki_2 rfl ?_
        refine z_virt (as := [.int (2 : Int32)]) (a := 75) (r := []) hc rfl rfl rfl rfl sh_75 rfl zco_168 rfl rfl rfl ?_
        refine ok_X12_wrong_75 (zdp hd rfl) (zwp_mono (zwp_bind h) ?_)
        rintro ⟨o8, o9⟩ h
        refine z_po (pc' := 38) (st' := []) (v := none) (L' := [(75, some 16, fun _ => o8), (75, some 17, fun _ => o9)]) (K' := []) zco_168 rfl rfl rfl rfl rfl rfl rfl rfl ?_
        refine g_goto hc rfl ?_
        replace h := zws h
        exact h
    · replace h := zwp_f h hx
      refine g_aload_n (pc' := 18)  hc rfl rfl rfl rfl ?_
      refine g_iconst (pc' := 19) (v := (1 : Int32)) hc rfl zki_1 rfl ?_
      refine z_virt (as := [.int (1 : Int32)]) (a := 75) (r := []) hc rfl rfl rfl rfl sh_75 rfl zco_168 rfl rfl rfl ?_
      refine ok_X12_wrong_75 (zdp hd rfl) (zwp_mono (zwp_bind h) ?_)
      rintro ⟨o10, o11⟩ h
      refine z_po (pc' := 22) (st' := []) (v := none) (L' := [(75, some 16, fun _ => o10), (75, some 17, fun _ => o11)]) (K' := []) zco_168 rfl rfl rfl rfl rfl rfl rfl rfl ?_
      refine g_goto hc rfl ?_
      replace h := zws h
      exact h
  · replace h := zwp_t h hx
    refine g_iconst (pc' := 8) (v := (0 : Int32)) hc rfl zki_0 rfl ?_
    replace h := zws h
    exact g_ireturn hc rfl rfl rfl (fun _ => ⟨rfl, rfl⟩) h
set_option maxRecDepth 4000 in
theorem ok_X12_readsWall_75 {p q : Nat} {I : pI} {J : pJ} {Q : pQ} {d : Nat} (hd : 3 ≤ d) (h : zwp (f_X12_readsWall (I 75 16) (I 75 17) (I 75 23) (I 75 19) (I 75 29) (I 87) (I 85) (I 75 30) (I 75 28) (I 75 27) (I 75 20) (I 75 22) (I 75 25) (I 75 21) (I 81) (I 75 24) (J 75 26)) (fun w => match w with | (o0, o1, o2, o3, o4, o5, o6, o7, o8, o9) => Q (.inl none) (zS p q I [(75, some 16, fun _ => o0), (75, some 17, fun _ => o1), (75, some 20, fun _ => o4), (75, some 21, fun _ => o7), (75, some 22, fun _ => o5), (75, some 23, fun _ => o2), (75, some 24, fun _ => o8), (75, some 25, fun _ => o6), (87, none, o3)] J [(75, some 26, fun _ => o9)]))) : pm_call M cost zext d 186 [.ref 75] (pm_st 108 (shp p q) I J) Q := by
  obtain ⟨d, rfl⟩ := zd1 hd rfl
  have hc := pm_call_m (M := M) (cost := cost) zext_m d
  refine z_in (L := [(75, some 16, fun _ => (I 75 16)), (75, some 17, fun _ => (I 75 17)), (75, some 20, fun _ => (I 75 20)), (75, some 21, fun _ => (I 75 21)), (75, some 22, fun _ => (I 75 22)), (75, some 23, fun _ => (I 75 23)), (75, some 24, fun _ => (I 75 24)), (75, some 25, fun _ => (I 75 25)), (87, none, (I 87))]) (K := [(75, some 26, fun _ => (J 75 26))]) (ls := [some (.ref 75), none, none]) zmt_186 zco_186 rfl rfl (zid_s (zid_s (zid_s (zid_s (zid_s (zid_s (zid_s (zid_s (zid_a zid_n))))))))) (zid_s zid_n) ?_
  delta f_X12_readsWall at h
  refine g_aload_n (pc' := 1)  hc rfl rfl rfl rfl ?_
  refine z_virt (as := []) (a := 75) (r := []) hc rfl rfl rfl rfl sh_75 rfl zco_173 rfl rfl rfl ?_
  refine ok_X12_cellHere_75 (zdp hd rfl) (zwp_mono (zwp_bind h) ?_)
  rintro ⟨r3, o1, o2⟩ h
  refine z_po (pc' := 4) (st' := [.int r3]) (v := (some (.int r3))) (L' := [(75, some 16, fun _ => o1), (75, some 17, fun _ => o2), (75, some 20, fun _ => (I 75 20)), (75, some 21, fun _ => (I 75 21)), (75, some 22, fun _ => (I 75 22)), (75, some 23, fun _ => (I 75 23)), (75, some 24, fun _ => (I 75 24)), (75, some 25, fun _ => (I 75 25)), (87, none, (I 87))]) (K' := [(75, some 26, fun _ => (J 75 26))]) zco_173 rfl rfl rfl rfl rfl rfl rfl rfl ?_
  refine g_istore_n (pc' := 5) (ls1 := [some (.ref 75), some (.int r3), none]) hc rfl (zlt rfl) rfl rfl ?_
  refine g_aload_n (pc' := 6)  hc rfl rfl rfl rfl ?_
  refine z_virt (as := []) (a := 75) (r := []) hc rfl rfl rfl rfl sh_75 rfl zco_169 rfl rfl rfl ?_
  refine ok_X12_isGood_75 (zdp hd rfl) (zwp_mono (zwp_bind h) ?_)
  rintro r4 h
  refine z_po (pc' := 9) (st' := [.int r4]) (v := (some (.int r4))) (L' := [(75, some 16, fun _ => o1), (75, some 17, fun _ => o2), (75, some 20, fun _ => (I 75 20)), (75, some 21, fun _ => (I 75 21)), (75, some 22, fun _ => (I 75 22)), (75, some 23, fun _ => (I 75 23)), (75, some 24, fun _ => (I 75 24)), (75, some 25, fun _ => (I 75 25)), (87, none, (I 87))]) (K' := [(75, some 26, fun _ => (J 75 26))]) zco_169 rfl rfl rfl rfl rfl rfl rfl rfl ?_
  refine g_if_ne (pc' := 12) hc rfl rfl (fun hx => ?_) (fun hx => ?_)
  · replace h := zwp_f h hx
    refine g_iconst (pc' := 14) (v := (0 : Int32)) hc rfl zki_0 rfl ?_
    refine g_istore_n (pc' := 15) (ls1 := [some (.ref 75), some (.int r3), some (.int (0 : Int32))]) hc rfl (zlt rfl) rfl rfl ?_
    refine zjn (G := (fun (g : Int32 × Int32) => match g with | (y9, y10) => ∀ z8 : Option Value, znl z8 = true → pm_ev C_X12_readsWall (d + 1) (pm_call M cost zext d) cost (false, false) 108 0 0 Q 46 [some (.ref 75), some (.int r3), z8] [] 0 0 (zS p q I [(75, some 16, fun _ => y9), (75, some 17, fun _ => y10), (75, some 20, fun _ => (I 75 20)), (75, some 21, fun _ => (I 75 21)), (75, some 22, fun _ => (I 75 22)), (75, some 23, fun _ => (I 75 23)), (75, some 24, fun _ => (I 75 24)), (75, some 25, fun _ => (I 75 25)), (87, none, (I 87))] J [(75, some 26, fun _ => (J 75 26))]))) (zwp_bind h) ?_ (fun h => ?_)
    · rintro ⟨y9, y10⟩ h z8 hz8
      refine g_iconst (pc' := 47) (v := (0 : Int32)) hc rfl zki_0 rfl ?_
      refine g_istore_n (pc' := 48) (ls1 := [some (.ref 75), some (.int r3), some (.int (0 : Int32))]) hc rfl (zlt rfl) rfl rfl ?_
      refine zjn (G := (fun (g : Int32 × Int32) => match g with | (y15, y16) => ∀ z14 : Option Value, znl z14 = true → pm_ev C_X12_readsWall (d + 1) (pm_call M cost zext d) cost (false, false) 108 0 0 Q 77 [some (.ref 75), some (.int r3), z14] [] 0 0 (zS p q I [(75, some 16, fun _ => y15), (75, some 17, fun _ => y16), (75, some 20, fun _ => (I 75 20)), (75, some 21, fun _ => (I 75 21)), (75, some 22, fun _ => (I 75 22)), (75, some 23, fun _ => (I 75 23)), (75, some 24, fun _ => (I 75 24)), (75, some 25, fun _ => (I 75 25)), (87, none, (I 87))] J [(75, some 26, fun _ => (J 75 26))]))) (zwp_bind h) ?_ (fun h => ?_)
      · rintro ⟨y15, y16⟩ h z14 hz14
        refine g_aload_n (pc' := 78)  hc rfl rfl rfl rfl ?_
        refine z_virt (as := []) (a := 75) (r := []) hc rfl rfl rfl rfl sh_75 rfl zco_169 rfl rfl rfl ?_
        refine ok_X12_isGood_75 (zdp hd rfl) (zwp_mono (zwp_bind h) ?_)
        rintro r17 h
        refine z_po (pc' := 81) (st' := [.int r17]) (v := (some (.int r17))) (L' := [(75, some 16, fun _ => y15), (75, some 17, fun _ => y16), (75, some 20, fun _ => (I 75 20)), (75, some 21, fun _ => (I 75 21)), (75, some 22, fun _ => (I 75 22)), (75, some 23, fun _ => (I 75 23)), (75, some 24, fun _ => (I 75 24)), (75, some 25, fun _ => (I 75 25)), (87, none, (I 87))]) (K' := [(75, some 26, fun _ => (J 75 26))]) zco_169 rfl rfl rfl rfl rfl rfl rfl rfl ?_
        refine g_if_ne (pc' := 84) hc rfl rfl (fun hx => ?_) (fun hx => ?_)
        · replace h := zwp_f h hx
          refine g_aload_n (pc' := 86)  hc rfl rfl rfl rfl ?_
          refine z_getR (pc' := 89)  hc rfl rfl rfl sh_75 rfl rfl ?_
          refine g_bipush (pc' := 91) (v := (33 : Int32)) hc rfl zkb_33 rfl ?_
          refine g_iload_n (pc' := 92)  hc rfl rfl rfl ?_
          refine g_iadd (pc' := 93)  hc rfl rfl ?_
          refine g_iconst (pc' := 94) (v := (1 : Int32)) hc rfl zki_1 rfl ?_
          have hb := (zwp_bnd h).1
          replace h := (zwp_bnd h).2
          refine z_iastore (pc' := 95) (g := (I 87)) (L' := [(75, some 16, fun _ => y15), (75, some 17, fun _ => y16), (75, some 20, fun _ => (I 75 20)), (75, some 21, fun _ => (I 75 21)), (75, some 22, fun _ => (I 75 22)), (75, some 23, fun _ => (I 75 23)), (75, some 24, fun _ => (I 75 24)), (75, some 25, fun _ => (I 75 25)), (87, none, (upd ((I 87)) ((33 : Int32) + r3).toNatClampNeg (1 : Int32)))]) hc rfl rfl sh_87 hb rfl rfl rfl rfl ?_
          refine g_aload_n (pc' := 96)  hc rfl rfl rfl rfl ?_
          refine z_virt (as := []) (a := 75) (r := []) hc rfl rfl rfl rfl sh_75 rfl zco_164 rfl rfl rfl ?_
          refine ok_X12_goes_75 (zdp hd rfl) (zwp_mono (zwp_bind h) ?_)
          rintro ⟨o18, o19, o20, o21, o22, o23, o24⟩ h
          refine z_po (pc' := 99) (st' := []) (v := none) (L' := [(75, some 16, fun _ => y15), (75, some 17, fun _ => y16), (75, some 20, fun _ => o19), (75, some 21, fun _ => o22), (75, some 22, fun _ => o20), (75, some 23, fun _ => o18), (75, some 24, fun _ => o23), (75, some 25, fun _ => o21), (87, none, (upd ((I 87)) ((33 : Int32) + r3).toNatClampNeg (1 : Int32)))]) (K' := [(75, some 26, fun _ => o24)]) zco_164 rfl rfl rfl rfl rfl rfl rfl rfl ?_
          replace h := zws h
          exact g_return hc rfl rfl (fun _ => ⟨rfl, rfl⟩) h
        · replace h := zwp_t h hx
          replace h := zws h
          exact g_return hc rfl rfl (fun _ => ⟨rfl, rfl⟩) h
      refine zitr_ev (G := (fun (g : Int32 × Int32 × Int32) => match g with | (x11, x12, x13) => pm_ev C_X12_readsWall (d + 1) (pm_call M cost zext d) cost (false, false) 108 0 0 Q 48 [some (.ref 75), some (.int r3), some (.int x11)] [] 0 0 (zS p q I [(75, some 16, fun _ => x12), (75, some 17, fun _ => x13), (75, some 20, fun _ => (I 75 20)), (75, some 21, fun _ => (I 75 21)), (75, some 22, fun _ => (I 75 22)), (75, some 23, fun _ => (I 75 23)), (75, some 24, fun _ => (I 75 24)), (75, some 25, fun _ => (I 75 25)), (87, none, (I 87))] J [(75, some 26, fun _ => (J 75 26))]))) ?_ zFU ((0 : Int32), y9, y10) h
      rintro ⟨x11, x12, x13⟩ h
      refine g_iload_n (pc' := 49)  hc rfl rfl rfl ?_
      refine g_aload_n (pc' := 50)  hc rfl rfl rfl rfl ?_
      refine z_getI (pc' := 53) (v := (I 75 30)) hc rfl rfl rfl sh_75 rfl rfl rfl ?_
      refine g_icmp_ge (pc' := 56) hc rfl rfl (fun hx => ?_) (fun hx => ?_)
      · replace h := zwp_t h hx
        replace h := zwp_r h
        exact h (some (.int x11)) rfl
      · replace h := zwp_f h hx
        refine g_aload_n (pc' := 57)  hc rfl rfl rfl rfl ?_
        refine z_getR (pc' := 60)  hc rfl rfl rfl sh_75 rfl rfl ?_
        refine g_iload_n (pc' := 61)  hc rfl rfl rfl ?_
        have hb := (zwp_bnd h).1
        replace h := (zwp_bnd h).2
        refine z_iaload (pc' := 62) (v := (((I 85)) x11.toNatClampNeg)) hc rfl rfl sh_85 hb rfl rfl ?_
        refine g_iload_n (pc' := 63)  hc rfl rfl rfl ?_
        refine g_icmp_ne (pc' := 66) hc rfl rfl (fun hx => ?_) (fun hx => ?_)
        · replace h := zwp_f h hx
          refine g_iinc (pc' := 74) (ls1 := [some (.ref 75), some (.int r3), some (.int (x11 + (1 : Int32)))]) hc rfl rfl zki_1 (zlt rfl) rfl rfl ?_
          refine g_goto hc rfl ?_
          replace h := zwp_l h
          exact h
        · replace h := zwp_t h hx
          refine g_aload_n (pc' := 67)  hc rfl rfl rfl rfl ?_
          refine g_iconst (pc' := 68) (v := (4 : Int32)) hc rfl zki_4 rfl ?_
          refine z_virt (as := [.int (4 : Int32)]) (a := 75) (r := []) hc rfl rfl rfl rfl sh_75 rfl zco_168 rfl rfl rfl ?_
          refine ok_X12_wrong_75 (zdp hd rfl) (zwp_mono (zwp_bind h) ?_)
          rintro ⟨o25, o26⟩ h
          refine z_po (pc' := 71) (st' := []) (v := none) (L' := [(75, some 16, fun _ => o25), (75, some 17, fun _ => o26), (75, some 20, fun _ => (I 75 20)), (75, some 21, fun _ => (I 75 21)), (75, some 22, fun _ => (I 75 22)), (75, some 23, fun _ => (I 75 23)), (75, some 24, fun _ => (I 75 24)), (75, some 25, fun _ => (I 75 25)), (87, none, (I 87))]) (K' := [(75, some 26, fun _ => (J 75 26))]) zco_168 rfl rfl rfl rfl rfl rfl rfl rfl ?_
          refine g_iinc (pc' := 74) (ls1 := [some (.ref 75), some (.int r3), some (.int (x11 + (1 : Int32)))]) hc rfl rfl zki_1 (zlt rfl) rfl rfl ?_
          refine g_goto hc rfl ?_
          replace h := zwp_l h
          exact h
    refine zitr_ev (G := (fun (g : Int32 × Int32 × Int32) => match g with | (x5, x6, x7) => pm_ev C_X12_readsWall (d + 1) (pm_call M cost zext d) cost (false, false) 108 0 0 Q 15 [some (.ref 75), some (.int r3), some (.int x5)] [] 0 0 (zS p q I [(75, some 16, fun _ => x6), (75, some 17, fun _ => x7), (75, some 20, fun _ => (I 75 20)), (75, some 21, fun _ => (I 75 21)), (75, some 22, fun _ => (I 75 22)), (75, some 23, fun _ => (I 75 23)), (75, some 24, fun _ => (I 75 24)), (75, some 25, fun _ => (I 75 25)), (87, none, (I 87))] J [(75, some 26, fun _ => (J 75 26))]))) ?_ zFU ((0 : Int32), o1, o2) h
    rintro ⟨x5, x6, x7⟩ h
    refine g_iload_n (pc' := 16)  hc rfl rfl rfl ?_
    refine g_aload_n (pc' := 17)  hc rfl rfl rfl rfl ?_
    refine z_getI (pc' := 20) (v := (I 75 29)) hc rfl rfl rfl sh_75 rfl rfl rfl ?_
    refine g_icmp_ge (pc' := 23) hc rfl rfl (fun hx => ?_) (fun hx => ?_)
    · replace h := zwp_t h hx
      replace h := zwp_r h
      exact h (some (.int x5)) rfl
    · replace h := zwp_f h hx
      refine g_aload_n (pc' := 24)  hc rfl rfl rfl rfl ?_
      refine z_getR (pc' := 27)  hc rfl rfl rfl sh_75 rfl rfl ?_
      refine g_iconst (pc' := 28) (v := (1 : Int32)) hc rfl zki_1 rfl ?_
      refine g_iload_n (pc' := 29)  hc rfl rfl rfl ?_
      refine g_iadd (pc' := 30)  hc rfl rfl ?_
      have hb := (zwp_bnd h).1
      replace h := (zwp_bnd h).2
      refine z_iaload (pc' := 31) (v := (((I 87)) ((1 : Int32) + x5).toNatClampNeg)) hc rfl rfl sh_87 hb rfl rfl ?_
      refine g_iload_n (pc' := 32)  hc rfl rfl rfl ?_
      refine g_icmp_ne (pc' := 35) hc rfl rfl (fun hx => ?_) (fun hx => ?_)
      · replace h := zwp_f h hx
        refine g_iinc (pc' := 43) (ls1 := [some (.ref 75), some (.int r3), some (.int (x5 + (1 : Int32)))]) hc rfl rfl zki_1 (zlt rfl) rfl rfl ?_
        refine g_goto hc rfl ?_
        replace h := zwp_l h
        exact h
      · replace h := zwp_t h hx
        refine g_aload_n (pc' := 36)  hc rfl rfl rfl rfl ?_
        refine g_iconst (pc' := 37) (v := (4 : Int32)) hc rfl zki_4 rfl ?_
        refine z_virt (as := [.int (4 : Int32)]) (a := 75) (r := []) hc rfl rfl rfl rfl sh_75 rfl zco_168 rfl rfl rfl ?_
        refine ok_X12_wrong_75 (zdp hd rfl) (zwp_mono (zwp_bind h) ?_)
        rintro ⟨o27, o28⟩ h
        refine z_po (pc' := 40) (st' := []) (v := none) (L' := [(75, some 16, fun _ => o27), (75, some 17, fun _ => o28), (75, some 20, fun _ => (I 75 20)), (75, some 21, fun _ => (I 75 21)), (75, some 22, fun _ => (I 75 22)), (75, some 23, fun _ => (I 75 23)), (75, some 24, fun _ => (I 75 24)), (75, some 25, fun _ => (I 75 25)), (87, none, (I 87))]) (K' := [(75, some 26, fun _ => (J 75 26))]) zco_168 rfl rfl rfl rfl rfl rfl rfl rfl ?_
        refine g_iinc (pc' := 43) (ls1 := [some (.ref 75), some (.int r3), some (.int (x5 + (1 : Int32)))]) hc rfl rfl zki_1 (zlt rfl) rfl rfl ?_
        refine g_goto hc rfl ?_
        replace h := zwp_l h
        exact h
  · replace h := zwp_t h hx
    replace h := zws h
    exact g_return hc rfl rfl (fun _ => ⟨rfl, rfl⟩) h
set_option maxRecDepth 4000 in
theorem ok_X12_readsFigure_75 {p q : Nat} {I : pI} {J : pJ} {Q : pQ} {d : Nat} (hd : 4 ≤ d) (h : zwp (f_X12_readsFigure (I 75 16) (I 75 17) (I 75 23) (I 75 19) (I 75 29) (I 87) (I 75 28) (I 83) (I 84) (I 75 27) (I 75 20) (I 75 22) (I 75 25) (I 75 21) (I 81) (I 75 24) (J 75 26)) (fun w => match w with | (o0, o1, o2, o3, o4, o5, o6, o7, o8, o9, o10, o11, o12) => Q (.inl none) (zS p q I [(75, some 16, fun _ => o0), (75, some 17, fun _ => o1), (75, some 20, fun _ => o7), (75, some 21, fun _ => o10), (75, some 22, fun _ => o8), (75, some 23, fun _ => o2), (75, some 24, fun _ => o11), (75, some 25, fun _ => o9), (75, some 29, fun _ => o3), (83, none, o5), (84, none, o6), (87, none, o4)] J [(75, some 26, fun _ => o12)]))) : pm_call M cost zext d 187 [.ref 75] (pm_st 108 (shp p q) I J) Q := by
  obtain ⟨d, rfl⟩ := zd1 hd rfl
  have hc := pm_call_m (M := M) (cost := cost) zext_m d
  refine z_in (L := [(75, some 16, fun _ => (I 75 16)), (75, some 17, fun _ => (I 75 17)), (75, some 20, fun _ => (I 75 20)), (75, some 21, fun _ => (I 75 21)), (75, some 22, fun _ => (I 75 22)), (75, some 23, fun _ => (I 75 23)), (75, some 24, fun _ => (I 75 24)), (75, some 25, fun _ => (I 75 25)), (75, some 29, fun _ => (I 75 29)), (83, none, (I 83)), (84, none, (I 84)), (87, none, (I 87))]) (K := [(75, some 26, fun _ => (J 75 26))]) (ls := [some (.ref 75), none, none, none, none]) zmt_187 zco_187 rfl rfl (zid_s (zid_s (zid_s (zid_s (zid_s (zid_s (zid_s (zid_s (zid_s (zid_a (zid_a (zid_a zid_n)))))))))))) (zid_s zid_n) ?_
  delta f_X12_readsFigure at h
  refine g_aload_n (pc' := 1)  hc rfl rfl rfl rfl ?_
  refine z_getI (pc' := 4) (v := (I 75 29)) hc rfl rfl rfl sh_75 rfl rfl rfl ?_
  refine g_istore_n (pc' := 5) (ls1 := [some (.ref 75), some (.int (I 75 29)), none, none, none]) hc rfl (zlt rfl) rfl rfl ?_
  refine g_aload_n (pc' := 6)  hc rfl rfl rfl rfl ?_
  refine z_getR (pc' := 9)  hc rfl rfl rfl sh_75 rfl rfl ?_
  refine g_iconst (pc' := 10) (v := (1 : Int32)) hc rfl zki_1 rfl ?_
  refine g_iload_n (pc' := 11)  hc rfl rfl rfl ?_
  refine g_iadd (pc' := 12)  hc rfl rfl ?_
  refine g_aload_n (pc' := 13)  hc rfl rfl rfl rfl ?_
  refine z_virt (as := []) (a := 75) (r := [.int ((1 : Int32) + ((I 75 29))), .ref 87]) hc rfl rfl rfl rfl sh_75 rfl zco_173 rfl rfl rfl ?_
  refine ok_X12_cellHere_75 (zdp hd rfl) (zwp_mono (zwp_bind h) ?_)
  rintro ⟨r3, o1, o2⟩ h
  refine z_po (pc' := 16) (st' := [.int r3, .int ((1 : Int32) + ((I 75 29))), .ref 87]) (v := (some (.int r3))) (L' := [(75, some 16, fun _ => o1), (75, some 17, fun _ => o2), (75, some 20, fun _ => (I 75 20)), (75, some 21, fun _ => (I 75 21)), (75, some 22, fun _ => (I 75 22)), (75, some 23, fun _ => (I 75 23)), (75, some 24, fun _ => (I 75 24)), (75, some 25, fun _ => (I 75 25)), (75, some 29, fun _ => (I 75 29)), (83, none, (I 83)), (84, none, (I 84)), (87, none, (I 87))]) (K' := [(75, some 26, fun _ => (J 75 26))]) zco_173 rfl rfl rfl rfl rfl rfl rfl rfl ?_
  have hb := (zwp_bnd h).1
  replace h := (zwp_bnd h).2
  refine z_iastore (pc' := 17) (g := (I 87)) (L' := [(75, some 16, fun _ => o1), (75, some 17, fun _ => o2), (75, some 20, fun _ => (I 75 20)), (75, some 21, fun _ => (I 75 21)), (75, some 22, fun _ => (I 75 22)), (75, some 23, fun _ => (I 75 23)), (75, some 24, fun _ => (I 75 24)), (75, some 25, fun _ => (I 75 25)), (75, some 29, fun _ => (I 75 29)), (83, none, (I 83)), (84, none, (I 84)), (87, none, (upd ((I 87)) ((1 : Int32) + ((I 75 29))).toNatClampNeg r3))]) hc rfl rfl sh_87 hb rfl rfl rfl rfl ?_
  refine g_aload_n (pc' := 18)  hc rfl rfl rfl rfl ?_
  refine z_virt (as := []) (a := 75) (r := []) hc rfl rfl rfl rfl sh_75 rfl zco_169 rfl rfl rfl ?_
  refine ok_X12_isGood_75 (zdp hd rfl) (zwp_mono (zwp_bind h) ?_)
  rintro r4 h
  refine z_po (pc' := 21) (st' := [.int r4]) (v := (some (.int r4))) (L' := [(75, some 16, fun _ => o1), (75, some 17, fun _ => o2), (75, some 20, fun _ => (I 75 20)), (75, some 21, fun _ => (I 75 21)), (75, some 22, fun _ => (I 75 22)), (75, some 23, fun _ => (I 75 23)), (75, some 24, fun _ => (I 75 24)), (75, some 25, fun _ => (I 75 25)), (75, some 29, fun _ => (I 75 29)), (83, none, (I 83)), (84, none, (I 84)), (87, none, (upd ((I 87)) ((1 : Int32) + ((I 75 29))).toNatClampNeg r3))]) (K' := [(75, some 26, fun _ => (J 75 26))]) zco_169 rfl rfl rfl rfl rfl rfl rfl rfl ?_
  refine g_if_ne (pc' := 24) hc rfl rfl (fun hx => ?_) (fun hx => ?_)
  · replace h := zwp_f h hx
    refine g_aload_n (pc' := 26)  hc rfl rfl rfl rfl ?_
    refine z_virt (as := []) (a := 75) (r := []) hc rfl rfl rfl rfl sh_75 rfl zco_164 rfl rfl rfl ?_
    refine ok_X12_goes_75 (zdp hd rfl) (zwp_mono (zwp_bind h) ?_)
    rintro ⟨o5, o6, o7, o8, o9, o10, o11⟩ h
    refine z_po (pc' := 29) (st' := []) (v := none) (L' := [(75, some 16, fun _ => o1), (75, some 17, fun _ => o2), (75, some 20, fun _ => o6), (75, some 21, fun _ => o9), (75, some 22, fun _ => o7), (75, some 23, fun _ => o5), (75, some 24, fun _ => o10), (75, some 25, fun _ => o8), (75, some 29, fun _ => (I 75 29)), (83, none, (I 83)), (84, none, (I 84)), (87, none, (upd ((I 87)) ((1 : Int32) + ((I 75 29))).toNatClampNeg r3))]) (K' := [(75, some 26, fun _ => o11)]) zco_164 rfl rfl rfl rfl rfl rfl rfl rfl ?_
    refine g_iconst (pc' := 30) (v := (0 : Int32)) hc rfl zki_0 rfl ?_
    refine g_istore_n (pc' := 31) (ls1 := [some (.ref 75), some (.int (I 75 29)), some (.int (0 : Int32)), none, none]) hc rfl (zlt rfl) rfl rfl ?_
    refine g_iconst (pc' := 32) (v := (1 : Int32)) hc rfl zki_1 rfl ?_
    refine g_istore_n (pc' := 33) (ls1 := [some (.ref 75), some (.int (I 75 29)), some (.int (0 : Int32)), some (.int (1 : Int32)), none]) hc rfl (zlt rfl) rfl rfl ?_
    refine zjs (G := (fun (g : Int32 × Int32 × Int32 × Int32 × (Nat → Int32) × Int32 × Int32 × Int32 × Int32 × Int32 × Int64) => match g with | (y25, y28, y29, y30, y31, y32, y33, y34, y35, y36, y37) => ∀ z26 : Option Value, znl z26 = true → ∀ z27 : Option Value, znl z27 = true → pm_ev C_X12_readsFigure (d + 1) (pm_call M cost zext d) cost (false, false) 108 0 0 Q 112 [some (.ref 75), some (.int (I 75 29)), some (.int y25), z26, z27] [] 0 0 (zS p q I [(75, some 16, fun _ => y28), (75, some 17, fun _ => y29), (75, some 20, fun _ => y32), (75, some 21, fun _ => y35), (75, some 22, fun _ => y33), (75, some 23, fun _ => y30), (75, some 24, fun _ => y36), (75, some 25, fun _ => y34), (75, some 29, fun _ => (I 75 29)), (83, none, (I 83)), (84, none, y31), (87, none, (upd ((I 87)) ((1 : Int32) + ((I 75 29))).toNatClampNeg r3))] J [(75, some 26, fun _ => y37)]))) h ?_ (fun h => ?_)
    · rintro ⟨y25, y28, y29, y30, y31, y32, y33, y34, y35, y36, y37⟩ h z26 hz26 z27 hz27
      refine g_aload_n (pc' := 113)  hc rfl rfl rfl rfl ?_
      refine z_getR (pc' := 116)  hc rfl rfl rfl sh_75 rfl rfl ?_
      refine g_iload_n (pc' := 117)  hc rfl rfl rfl ?_
      refine g_iload_n (pc' := 118)  hc rfl rfl rfl ?_
      have hb := (zwp_bnd h).1
      replace h := (zwp_bnd h).2
      refine z_iastore (pc' := 119) (g := (I 83)) (L' := [(75, some 16, fun _ => y28), (75, some 17, fun _ => y29), (75, some 20, fun _ => y32), (75, some 21, fun _ => y35), (75, some 22, fun _ => y33), (75, some 23, fun _ => y30), (75, some 24, fun _ => y36), (75, some 25, fun _ => y34), (75, some 29, fun _ => (I 75 29)), (83, none, (upd ((I 83)) ((I 75 29)).toNatClampNeg y25)), (84, none, y31), (87, none, (upd ((I 87)) ((1 : Int32) + ((I 75 29))).toNatClampNeg r3))]) hc rfl rfl sh_83 hb rfl rfl rfl rfl ?_
      refine g_aload_n (pc' := 120)  hc rfl rfl rfl rfl ?_
      refine g_dup (pc' := 121)  hc rfl rfl rfl ?_
      refine z_getI (pc' := 124) (v := (I 75 29)) hc rfl rfl rfl sh_75 rfl rfl rfl ?_
      refine g_iconst (pc' := 125) (v := (1 : Int32)) hc rfl zki_1 rfl ?_
      refine g_iadd (pc' := 126)  hc rfl rfl ?_
      refine z_putI (pc' := 129) (L' := [(75, some 16, fun _ => y28), (75, some 17, fun _ => y29), (75, some 20, fun _ => y32), (75, some 21, fun _ => y35), (75, some 22, fun _ => y33), (75, some 23, fun _ => y30), (75, some 24, fun _ => y36), (75, some 25, fun _ => y34), (75, some 29, fun _ => (((I 75 29)) + (1 : Int32))), (83, none, (upd ((I 83)) ((I 75 29)).toNatClampNeg y25)), (84, none, y31), (87, none, (upd ((I 87)) ((1 : Int32) + ((I 75 29))).toNatClampNeg r3))]) hc rfl rfl rfl sh_75 rfl zft_12_29 rfl (fun h => Bool.noConfusion h) rfl rfl rfl ?_
      replace h := zws h
      exact g_return hc rfl rfl (fun _ => ⟨rfl, rfl⟩) h
    refine zitr_ev (G := (fun (g : Int32 × Int32 × Int32 × Int32 × Int32 × (Nat → Int32) × Int32 × Int32 × Int32 × Int32 × Int32 × Int64) => match g with | (x12, x13, x15, x16, x17, x18, x19, x20, x21, x22, x23, x24) => ∀ z14 : Option Value, znl z14 = true → pm_ev C_X12_readsFigure (d + 1) (pm_call M cost zext d) cost (false, false) 108 0 0 Q 33 [some (.ref 75), some (.int (I 75 29)), some (.int x12), some (.int x13), z14] [] 0 0 (zS p q I [(75, some 16, fun _ => x15), (75, some 17, fun _ => x16), (75, some 20, fun _ => x19), (75, some 21, fun _ => x22), (75, some 22, fun _ => x20), (75, some 23, fun _ => x17), (75, some 24, fun _ => x23), (75, some 25, fun _ => x21), (75, some 29, fun _ => (I 75 29)), (83, none, (I 83)), (84, none, x18), (87, none, (upd ((I 87)) ((1 : Int32) + ((I 75 29))).toNatClampNeg r3))] J [(75, some 26, fun _ => x24)]))) ?_ zFU ((0 : Int32), (1 : Int32), o1, o2, o5, (I 84), o6, o7, o8, o9, o10, o11) h none rfl
    rintro ⟨x12, x13, x15, x16, x17, x18, x19, x20, x21, x22, x23, x24⟩ h z14 hz14
    refine g_iload_n (pc' := 34)  hc rfl rfl rfl ?_
    refine g_if_eq (pc' := 37) hc rfl rfl (fun hx => ?_) (fun hx => ?_)
    · replace h := zwp_t h hx
      replace h := zwp_r h
      exact h (some (.int x13)) rfl z14 hz14
    · replace h := zwp_f h hx
      refine g_aload_n (pc' := 38)  hc rfl rfl rfl rfl ?_
      refine z_virt (as := []) (a := 75) (r := []) hc rfl rfl rfl rfl sh_75 rfl zco_169 rfl rfl rfl ?_
      refine ok_X12_isGood_75 (zdp hd rfl) (zwp_mono (zwp_bind h) ?_)
      rintro r38 h
      refine z_po (pc' := 41) (st' := [.int r38]) (v := (some (.int r38))) (L' := [(75, some 16, fun _ => x15), (75, some 17, fun _ => x16), (75, some 20, fun _ => x19), (75, some 21, fun _ => x22), (75, some 22, fun _ => x20), (75, some 23, fun _ => x17), (75, some 24, fun _ => x23), (75, some 25, fun _ => x21), (75, some 29, fun _ => (I 75 29)), (83, none, (I 83)), (84, none, x18), (87, none, (upd ((I 87)) ((1 : Int32) + ((I 75 29))).toNatClampNeg r3))]) (K' := [(75, some 26, fun _ => x24)]) zco_169 rfl rfl rfl rfl rfl rfl rfl rfl ?_
      refine g_if_eq (pc' := 44) hc rfl rfl (fun hx => ?_) (fun hx => ?_)
      · replace h := zwp_t h hx
        replace h := zwp_r h
        exact h (some (.int x13)) rfl z14 hz14
      · replace h := zwp_f h hx
        refine g_iload_n (pc' := 45)  hc rfl rfl rfl ?_
        refine g_bipush (pc' := 47) (v := (8 : Int32)) hc rfl zkb_8 rfl ?_
        refine zjn (G := (fun (g : Int32 × Int32) => match g with | (j39, j40) => pm_ev C_X12_readsFigure (d + 1) (pm_call M cost zext d) cost (false, false) 108 0 0 Q 63 [some (.ref 75), some (.int (I 75 29)), some (.int x12), some (.int x13), z14] [] 0 0 (zS p q I [(75, some 16, fun _ => j39), (75, some 17, fun _ => j40), (75, some 20, fun _ => x19), (75, some 21, fun _ => x22), (75, some 22, fun _ => x20), (75, some 23, fun _ => x17), (75, some 24, fun _ => x23), (75, some 25, fun _ => x21), (75, some 29, fun _ => (I 75 29)), (83, none, (I 83)), (84, none, x18), (87, none, (upd ((I 87)) ((1 : Int32) + ((I 75 29))).toNatClampNeg r3))] J [(75, some 26, fun _ => x24)]))) (zwp_bind h) ?_ (fun h => ?_)
        · rintro ⟨j39, j40⟩ h
          refine g_aload_n (pc' := 64)  hc rfl rfl rfl rfl ?_
          refine g_iconst (pc' := 65) (v := (0 : Int32)) hc rfl zki_0 rfl ?_
          refine g_iconst (pc' := 66) (v := (4 : Int32)) hc rfl zki_4 rfl ?_
          refine z_virt (as := [.int (0 : Int32), .int (4 : Int32)]) (a := 75) (r := []) hc rfl rfl rfl rfl sh_75 rfl zco_172 rfl rfl rfl ?_
          refine ok_X12_number_75 (zdp hd rfl) (zwp_mono (zwp_bind h) ?_)
          rintro ⟨r50, o41, o42, o43, o44, o45, o46, o47, o48, o49⟩ h
          refine z_po (pc' := 69) (st' := [.int r50]) (v := (some (.int r50))) (L' := [(75, some 16, fun _ => o41), (75, some 17, fun _ => o42), (75, some 20, fun _ => o44), (75, some 21, fun _ => o47), (75, some 22, fun _ => o45), (75, some 23, fun _ => o43), (75, some 24, fun _ => o48), (75, some 25, fun _ => o46), (75, some 29, fun _ => (I 75 29)), (83, none, (I 83)), (84, none, x18), (87, none, (upd ((I 87)) ((1 : Int32) + ((I 75 29))).toNatClampNeg r3))]) (K' := [(75, some 26, fun _ => o49)]) zco_172 rfl rfl rfl rfl rfl rfl rfl rfl ?_
          refine g_istore (pc' := 71) (ls1 := [some (.ref 75), some (.int (I 75 29)), some (.int x12), some (.int x13), some (.int r50)]) hc rfl (zlt rfl) rfl rfl ?_
          refine g_aload_n (pc' := 72)  hc rfl rfl rfl rfl ?_
          refine z_virt (as := []) (a := 75) (r := []) hc rfl rfl rfl rfl sh_75 rfl zco_169 rfl rfl rfl ?_
          refine ok_X12_isGood_75 (zdp hd rfl) (zwp_mono (zwp_bind h) ?_)
          rintro r51 h
          refine z_po (pc' := 75) (st' := [.int r51]) (v := (some (.int r51))) (L' := [(75, some 16, fun _ => o41), (75, some 17, fun _ => o42), (75, some 20, fun _ => o44), (75, some 21, fun _ => o47), (75, some 22, fun _ => o45), (75, some 23, fun _ => o43), (75, some 24, fun _ => o48), (75, some 25, fun _ => o46), (75, some 29, fun _ => (I 75 29)), (83, none, (I 83)), (84, none, x18), (87, none, (upd ((I 87)) ((1 : Int32) + ((I 75 29))).toNatClampNeg r3))]) (K' := [(75, some 26, fun _ => o49)]) zco_169 rfl rfl rfl rfl rfl rfl rfl rfl ?_
          refine g_if_ne (pc' := 78) hc rfl rfl (fun hx => ?_) (fun hx => ?_)
          · replace h := zwp_f h hx
            refine g_aload_n (pc' := 80)  hc rfl rfl rfl rfl ?_
            refine z_getR (pc' := 83)  hc rfl rfl rfl sh_75 rfl rfl ?_
            refine g_bipush (pc' := 85) (v := (8 : Int32)) hc rfl zkb_8 rfl ?_
            refine g_iload_n (pc' := 86)  hc rfl rfl rfl ?_
            refine g_imul (pc' := 87)  hc rfl rfl ?_
            refine g_iload_n (pc' := 88)  hc rfl rfl rfl ?_
            refine g_iadd (pc' := 89)  hc rfl rfl ?_
            refine g_iload (pc' := 91)  hc rfl rfl rfl ?_
            have hb := (zwp_bnd h).1
            replace h := (zwp_bnd h).2
            refine z_iastore (pc' := 92) (g := x18) (L' := [(75, some 16, fun _ => o41), (75, some 17, fun _ => o42), (75, some 20, fun _ => o44), (75, some 21, fun _ => o47), (75, some 22, fun _ => o45), (75, some 23, fun _ => o43), (75, some 24, fun _ => o48), (75, some 25, fun _ => o46), (75, some 29, fun _ => (I 75 29)), (83, none, (I 83)), (84, none, (upd x18 (((8 : Int32) * ((I 75 29))) + x12).toNatClampNeg r50)), (87, none, (upd ((I 87)) ((1 : Int32) + ((I 75 29))).toNatClampNeg r3))]) hc rfl rfl sh_84 hb rfl rfl rfl rfl ?_
            refine g_iinc (pc' := 95) (ls1 := [some (.ref 75), some (.int (I 75 29)), some (.int (x12 + (1 : Int32))), some (.int x13), some (.int r50)]) hc rfl rfl zki_1 (zlt rfl) rfl rfl ?_
            refine g_aload_n (pc' := 96)  hc rfl rfl rfl rfl ?_
            refine z_getI (pc' := 99) (v := o47) hc rfl rfl rfl sh_75 rfl rfl rfl ?_
            refine g_iconst (pc' := 100) (v := (2 : Int32)) hc rfl zki_2 rfl ?_
            refine zjn (G := (fun (j52 : Int32) => pm_ev C_X12_readsFigure (d + 1) (pm_call M cost zext d) cost (false, false) 108 0 0 Q 108 [some (.ref 75), some (.int (I 75 29)), some (.int (x12 + (1 : Int32))), some (.int x13), some (.int r50)] [.int j52] 0 0 (zS p q I [(75, some 16, fun _ => o41), (75, some 17, fun _ => o42), (75, some 20, fun _ => o44), (75, some 21, fun _ => o47), (75, some 22, fun _ => o45), (75, some 23, fun _ => o43), (75, some 24, fun _ => o48), (75, some 25, fun _ => o46), (75, some 29, fun _ => (I 75 29)), (83, none, (I 83)), (84, none, (upd x18 (((8 : Int32) * ((I 75 29))) + x12).toNatClampNeg r50)), (87, none, (upd ((I 87)) ((1 : Int32) + ((I 75 29))).toNatClampNeg r3))] J [(75, some 26, fun _ => o49)]))) (zwp_bind h) ?_ (fun h => ?_)
            · rintro j52 h
              refine g_istore_n (pc' := 109) (ls1 := [some (.ref 75), some (.int (I 75 29)), some (.int (x12 + (1 : Int32))), some (.int j52), some (.int r50)]) hc rfl (zlt rfl) rfl rfl ?_
              refine g_goto hc rfl ?_
              replace h := zwp_l h
              exact h (some (.int r50)) rfl
            refine g_icmp_ne (pc' := 103) hc rfl rfl (fun hx => ?_) (fun hx => ?_)
            · replace h := zwp_f h hx
              refine g_iconst (pc' := 108) (v := (0 : Int32)) hc rfl zki_0 rfl ?_
              replace h := zws h
              exact h
            · replace h := zwp_t h hx
              refine g_iconst (pc' := 104) (v := (1 : Int32)) hc rfl zki_1 rfl ?_
              refine g_goto hc rfl ?_
              replace h := zws h
              exact h
          · replace h := zwp_t h hx
            replace h := zws h
            exact g_return hc rfl rfl (fun _ => ⟨rfl, rfl⟩) h
        refine g_icmp_ne (pc' := 50) hc rfl rfl (fun hx => ?_) (fun hx => ?_)
        · replace h := zwp_f h hx
          replace h := zws h
          exact h
        · replace h := zwp_t h hx
          refine g_aload_n (pc' := 51)  hc rfl rfl rfl rfl ?_
          refine z_getI (pc' := 54) (v := x22) hc rfl rfl rfl sh_75 rfl rfl rfl ?_
          refine g_iconst (pc' := 55) (v := (2 : Int32)) hc rfl zki_2 rfl ?_
          refine g_icmp_ne (pc' := 58) hc rfl rfl (fun hx => ?_) (fun hx => ?_)
          · replace h := zwp_f h hx
            replace h := zws h
            exact h
          · replace h := zwp_t h hx
            refine g_aload_n (pc' := 59)  hc rfl rfl rfl rfl ?_
            refine g_iconst (pc' := 60) (v := (2 : Int32)) hc rfl zki_2 rfl ?_
            refine z_virt (as := [.int (2 : Int32)]) (a := 75) (r := []) hc rfl rfl rfl rfl sh_75 rfl zco_168 rfl rfl rfl ?_
            refine ok_X12_wrong_75 (zdp hd rfl) (zwp_mono (zwp_bind h) ?_)
            rintro ⟨o53, o54⟩ h
            refine z_po (pc' := 63) (st' := []) (v := none) (L' := [(75, some 16, fun _ => o53), (75, some 17, fun _ => o54), (75, some 20, fun _ => x19), (75, some 21, fun _ => x22), (75, some 22, fun _ => x20), (75, some 23, fun _ => x17), (75, some 24, fun _ => x23), (75, some 25, fun _ => x21), (75, some 29, fun _ => (I 75 29)), (83, none, (I 83)), (84, none, x18), (87, none, (upd ((I 87)) ((1 : Int32) + ((I 75 29))).toNatClampNeg r3))]) (K' := [(75, some 26, fun _ => x24)]) zco_168 rfl rfl rfl rfl rfl rfl rfl rfl ?_
            replace h := zws h
            exact h
  · replace h := zwp_t h hx
    replace h := zws h
    exact g_return hc rfl rfl (fun _ => ⟨rfl, rfl⟩) h
set_option maxRecDepth 4000 in
theorem ok_X12_readsSeat_75 {p q : Nat} {I : pI} {J : pJ} {Q : pQ} {d : Nat} (hd : 3 ≤ d) (h : zwp (f_X12_readsSeat (I 75 16) (I 75 17) (I 75 23) (I 75 19) (I 87) (I 85) (I 75 30) (I 75 28) (I 75 27) (I 75 20) (I 75 22) (I 75 25) (I 75 21) (I 81) (I 75 24) (J 75 26)) (fun w => match w with | (o0, o1, o2, o3, o4, o5, o6, o7, o8, o9, o10) => Q (.inl none) (zS p q I [(75, some 16, fun _ => o0), (75, some 17, fun _ => o1), (75, some 20, fun _ => o5), (75, some 21, fun _ => o8), (75, some 22, fun _ => o6), (75, some 23, fun _ => o2), (75, some 24, fun _ => o9), (75, some 25, fun _ => o7), (75, some 30, fun _ => o4), (85, none, o3)] J [(75, some 26, fun _ => o10)]))) : pm_call M cost zext d 188 [.ref 75] (pm_st 108 (shp p q) I J) Q := by
  obtain ⟨d, rfl⟩ := zd1 hd rfl
  have hc := pm_call_m (M := M) (cost := cost) zext_m d
  refine z_in (L := [(75, some 16, fun _ => (I 75 16)), (75, some 17, fun _ => (I 75 17)), (75, some 20, fun _ => (I 75 20)), (75, some 21, fun _ => (I 75 21)), (75, some 22, fun _ => (I 75 22)), (75, some 23, fun _ => (I 75 23)), (75, some 24, fun _ => (I 75 24)), (75, some 25, fun _ => (I 75 25)), (75, some 30, fun _ => (I 75 30)), (85, none, (I 85))]) (K := [(75, some 26, fun _ => (J 75 26))]) (ls := [some (.ref 75)]) zmt_188 zco_188 rfl rfl (zid_s (zid_s (zid_s (zid_s (zid_s (zid_s (zid_s (zid_s (zid_s (zid_a zid_n)))))))))) (zid_s zid_n) ?_
  delta f_X12_readsSeat at h
  refine g_aload_n (pc' := 1)  hc rfl rfl rfl rfl ?_
  refine z_getR (pc' := 4)  hc rfl rfl rfl sh_75 rfl rfl ?_
  refine g_aload_n (pc' := 5)  hc rfl rfl rfl rfl ?_
  refine z_getI (pc' := 8) (v := (I 75 30)) hc rfl rfl rfl sh_75 rfl rfl rfl ?_
  refine g_aload_n (pc' := 9)  hc rfl rfl rfl rfl ?_
  refine z_virt (as := []) (a := 75) (r := [.int (I 75 30), .ref 85]) hc rfl rfl rfl rfl sh_75 rfl zco_173 rfl rfl rfl ?_
  refine ok_X12_cellHere_75 (zdp hd rfl) (zwp_mono (zwp_bind h) ?_)
  rintro ⟨r3, o1, o2⟩ h
  refine z_po (pc' := 12) (st' := [.int r3, .int (I 75 30), .ref 85]) (v := (some (.int r3))) (L' := [(75, some 16, fun _ => o1), (75, some 17, fun _ => o2), (75, some 20, fun _ => (I 75 20)), (75, some 21, fun _ => (I 75 21)), (75, some 22, fun _ => (I 75 22)), (75, some 23, fun _ => (I 75 23)), (75, some 24, fun _ => (I 75 24)), (75, some 25, fun _ => (I 75 25)), (75, some 30, fun _ => (I 75 30)), (85, none, (I 85))]) (K' := [(75, some 26, fun _ => (J 75 26))]) zco_173 rfl rfl rfl rfl rfl rfl rfl rfl ?_
  have hb := (zwp_bnd h).1
  replace h := (zwp_bnd h).2
  refine z_iastore (pc' := 13) (g := (I 85)) (L' := [(75, some 16, fun _ => o1), (75, some 17, fun _ => o2), (75, some 20, fun _ => (I 75 20)), (75, some 21, fun _ => (I 75 21)), (75, some 22, fun _ => (I 75 22)), (75, some 23, fun _ => (I 75 23)), (75, some 24, fun _ => (I 75 24)), (75, some 25, fun _ => (I 75 25)), (75, some 30, fun _ => (I 75 30)), (85, none, (upd ((I 85)) ((I 75 30)).toNatClampNeg r3))]) hc rfl rfl sh_85 hb rfl rfl rfl rfl ?_
  refine g_aload_n (pc' := 14)  hc rfl rfl rfl rfl ?_
  refine z_virt (as := []) (a := 75) (r := []) hc rfl rfl rfl rfl sh_75 rfl zco_169 rfl rfl rfl ?_
  refine ok_X12_isGood_75 (zdp hd rfl) (zwp_mono (zwp_bind h) ?_)
  rintro r4 h
  refine z_po (pc' := 17) (st' := [.int r4]) (v := (some (.int r4))) (L' := [(75, some 16, fun _ => o1), (75, some 17, fun _ => o2), (75, some 20, fun _ => (I 75 20)), (75, some 21, fun _ => (I 75 21)), (75, some 22, fun _ => (I 75 22)), (75, some 23, fun _ => (I 75 23)), (75, some 24, fun _ => (I 75 24)), (75, some 25, fun _ => (I 75 25)), (75, some 30, fun _ => (I 75 30)), (85, none, (upd ((I 85)) ((I 75 30)).toNatClampNeg r3))]) (K' := [(75, some 26, fun _ => (J 75 26))]) zco_169 rfl rfl rfl rfl rfl rfl rfl rfl ?_
  refine g_if_ne (pc' := 20) hc rfl rfl (fun hx => ?_) (fun hx => ?_)
  · replace h := zwp_f h hx
    refine g_aload_n (pc' := 22)  hc rfl rfl rfl rfl ?_
    refine z_virt (as := []) (a := 75) (r := []) hc rfl rfl rfl rfl sh_75 rfl zco_164 rfl rfl rfl ?_
    refine ok_X12_goes_75 (zdp hd rfl) (zwp_mono (zwp_bind h) ?_)
    rintro ⟨o5, o6, o7, o8, o9, o10, o11⟩ h
    refine z_po (pc' := 25) (st' := []) (v := none) (L' := [(75, some 16, fun _ => o1), (75, some 17, fun _ => o2), (75, some 20, fun _ => o6), (75, some 21, fun _ => o9), (75, some 22, fun _ => o7), (75, some 23, fun _ => o5), (75, some 24, fun _ => o10), (75, some 25, fun _ => o8), (75, some 30, fun _ => (I 75 30)), (85, none, (upd ((I 85)) ((I 75 30)).toNatClampNeg r3))]) (K' := [(75, some 26, fun _ => o11)]) zco_164 rfl rfl rfl rfl rfl rfl rfl rfl ?_
    refine g_aload_n (pc' := 26)  hc rfl rfl rfl rfl ?_
    refine g_dup (pc' := 27)  hc rfl rfl rfl ?_
    refine z_getI (pc' := 30) (v := (I 75 30)) hc rfl rfl rfl sh_75 rfl rfl rfl ?_
    refine g_iconst (pc' := 31) (v := (1 : Int32)) hc rfl zki_1 rfl ?_
    refine g_iadd (pc' := 32)  hc rfl rfl ?_
    refine z_putI (pc' := 35) (L' := [(75, some 16, fun _ => o1), (75, some 17, fun _ => o2), (75, some 20, fun _ => o6), (75, some 21, fun _ => o9), (75, some 22, fun _ => o7), (75, some 23, fun _ => o5), (75, some 24, fun _ => o10), (75, some 25, fun _ => o8), (75, some 30, fun _ => (((I 75 30)) + (1 : Int32))), (85, none, (upd ((I 85)) ((I 75 30)).toNatClampNeg r3))]) hc rfl rfl rfl sh_75 rfl zft_12_30 rfl (fun h => Bool.noConfusion h) rfl rfl rfl ?_
    replace h := zws h
    exact g_return hc rfl rfl (fun _ => ⟨rfl, rfl⟩) h
  · replace h := zwp_t h hx
    replace h := zws h
    exact g_return hc rfl rfl (fun _ => ⟨rfl, rfl⟩) h
set_option maxRecDepth 4000 in
theorem ok_X12_readsLight_75 {p q : Nat} {I : pI} {J : pJ} {Q : pQ} {d : Nat} (hd : 4 ≤ d) (h : zwp (f_X12_readsLight (I 75 16) (I 75 17) (I 75 23) (I 75 19) (I 86) (I 75 31) (I 75 20) (I 75 22) (I 75 25) (I 75 21) (I 81) (I 75 24) (J 75 26)) (fun w => match w with | (o0, o1, o2, o3, o4, o5, o6, o7, o8, o9, o10) => Q (.inl none) (zS p q I [(75, some 16, fun _ => o0), (75, some 17, fun _ => o1), (75, some 20, fun _ => o5), (75, some 21, fun _ => o8), (75, some 22, fun _ => o6), (75, some 23, fun _ => o2), (75, some 24, fun _ => o9), (75, some 25, fun _ => o7), (75, some 31, fun _ => o4), (86, none, o3)] J [(75, some 26, fun _ => o10)]))) : pm_call M cost zext d 189 [.ref 75] (pm_st 108 (shp p q) I J) Q := by
  obtain ⟨d, rfl⟩ := zd1 hd rfl
  have hc := pm_call_m (M := M) (cost := cost) zext_m d
  refine z_in (L := [(75, some 16, fun _ => (I 75 16)), (75, some 17, fun _ => (I 75 17)), (75, some 20, fun _ => (I 75 20)), (75, some 21, fun _ => (I 75 21)), (75, some 22, fun _ => (I 75 22)), (75, some 23, fun _ => (I 75 23)), (75, some 24, fun _ => (I 75 24)), (75, some 25, fun _ => (I 75 25)), (75, some 31, fun _ => (I 75 31)), (86, none, (I 86))]) (K := [(75, some 26, fun _ => (J 75 26))]) (ls := [some (.ref 75), none, none]) zmt_189 zco_189 rfl rfl (zid_s (zid_s (zid_s (zid_s (zid_s (zid_s (zid_s (zid_s (zid_s (zid_a zid_n)))))))))) (zid_s zid_n) ?_
  delta f_X12_readsLight at h
  refine g_aload_n (pc' := 1)  hc rfl rfl rfl rfl ?_
  refine g_iconst (pc' := 2) (v := (0 : Int32)) hc rfl zki_0 rfl ?_
  refine z_putI (pc' := 5) (L' := [(75, some 16, fun _ => (I 75 16)), (75, some 17, fun _ => (I 75 17)), (75, some 20, fun _ => (I 75 20)), (75, some 21, fun _ => (I 75 21)), (75, some 22, fun _ => (I 75 22)), (75, some 23, fun _ => (I 75 23)), (75, some 24, fun _ => (I 75 24)), (75, some 25, fun _ => (I 75 25)), (75, some 31, fun _ => (0 : Int32)), (86, none, (I 86))]) hc rfl rfl rfl sh_75 rfl zft_12_31 rfl (fun h => Bool.noConfusion h) rfl rfl rfl ?_
  refine g_iconst (pc' := 6) (v := (1 : Int32)) hc rfl zki_1 rfl ?_
  refine g_istore_n (pc' := 7) (ls1 := [some (.ref 75), some (.int (1 : Int32)), none]) hc rfl (zlt rfl) rfl rfl ?_
  refine zjs (G := (fun (g : Int32 × Int32 × Int32 × (Nat → Int32) × Int32 × Int32 × Int32 × Int32 × Int32 × Int32 × Int64) => match g with | (y16, y17, y18, y19, y20, y21, y22, y23, y24, y25, y26) => ∀ z14 : Option Value, znl z14 = true → ∀ z15 : Option Value, znl z15 = true → pm_ev C_X12_readsLight (d + 1) (pm_call M cost zext d) cost (false, false) 108 0 0 Q 93 [some (.ref 75), z14, z15] [] 0 0 (zS p q I [(75, some 16, fun _ => y16), (75, some 17, fun _ => y17), (75, some 20, fun _ => y21), (75, some 21, fun _ => y24), (75, some 22, fun _ => y22), (75, some 23, fun _ => y18), (75, some 24, fun _ => y25), (75, some 25, fun _ => y23), (75, some 31, fun _ => y20), (86, none, y19)] J [(75, some 26, fun _ => y26)]))) h ?_ (fun h => ?_)
  · rintro ⟨y16, y17, y18, y19, y20, y21, y22, y23, y24, y25, y26⟩ h z14 hz14 z15 hz15
    replace h := zws h
    exact g_return hc rfl rfl (fun _ => ⟨rfl, rfl⟩) h
  refine zitr_ev (G := (fun (g : Int32 × Int32 × Int32 × Int32 × (Nat → Int32) × Int32 × Int32 × Int32 × Int32 × Int32 × Int32 × Int64) => match g with | (x1, x3, x4, x5, x6, x7, x8, x9, x10, x11, x12, x13) => ∀ z2 : Option Value, znl z2 = true → pm_ev C_X12_readsLight (d + 1) (pm_call M cost zext d) cost (false, false) 108 0 0 Q 7 [some (.ref 75), some (.int x1), z2] [] 0 0 (zS p q I [(75, some 16, fun _ => x3), (75, some 17, fun _ => x4), (75, some 20, fun _ => x8), (75, some 21, fun _ => x11), (75, some 22, fun _ => x9), (75, some 23, fun _ => x5), (75, some 24, fun _ => x12), (75, some 25, fun _ => x10), (75, some 31, fun _ => x7), (86, none, x6)] J [(75, some 26, fun _ => x13)]))) ?_ zFU ((1 : Int32), (I 75 16), (I 75 17), (I 75 23), (I 86), (0 : Int32), (I 75 20), (I 75 22), (I 75 25), (I 75 21), (I 75 24), (J 75 26)) h none rfl
  rintro ⟨x1, x3, x4, x5, x6, x7, x8, x9, x10, x11, x12, x13⟩ h z2 hz2
  refine g_iload_n (pc' := 8)  hc rfl rfl rfl ?_
  refine g_if_eq (pc' := 11) hc rfl rfl (fun hx => ?_) (fun hx => ?_)
  · replace h := zwp_t h hx
    replace h := zwp_r h
    exact h (some (.int x1)) rfl z2 hz2
  · replace h := zwp_f h hx
    refine g_aload_n (pc' := 12)  hc rfl rfl rfl rfl ?_
    refine z_virt (as := []) (a := 75) (r := []) hc rfl rfl rfl rfl sh_75 rfl zco_169 rfl rfl rfl ?_
    refine ok_X12_isGood_75 (zdp hd rfl) (zwp_mono (zwp_bind h) ?_)
    rintro r27 h
    refine z_po (pc' := 15) (st' := [.int r27]) (v := (some (.int r27))) (L' := [(75, some 16, fun _ => x3), (75, some 17, fun _ => x4), (75, some 20, fun _ => x8), (75, some 21, fun _ => x11), (75, some 22, fun _ => x9), (75, some 23, fun _ => x5), (75, some 24, fun _ => x12), (75, some 25, fun _ => x10), (75, some 31, fun _ => x7), (86, none, x6)]) (K' := [(75, some 26, fun _ => x13)]) zco_169 rfl rfl rfl rfl rfl rfl rfl rfl ?_
    refine g_if_eq (pc' := 18) hc rfl rfl (fun hx => ?_) (fun hx => ?_)
    · replace h := zwp_t h hx
      replace h := zwp_r h
      exact h (some (.int x1)) rfl z2 hz2
    · replace h := zwp_f h hx
      refine g_aload_n (pc' := 19)  hc rfl rfl rfl rfl ?_
      refine z_getI (pc' := 22) (v := x7) hc rfl rfl rfl sh_75 rfl rfl rfl ?_
      refine g_bipush (pc' := 24) (v := (8 : Int32)) hc rfl zkb_8 rfl ?_
      refine zjn (G := (fun (g : Int32 × Int32) => match g with | (j28, j29) => pm_ev C_X12_readsLight (d + 1) (pm_call M cost zext d) cost (false, false) 108 0 0 Q 40 [some (.ref 75), some (.int x1), z2] [] 0 0 (zS p q I [(75, some 16, fun _ => j28), (75, some 17, fun _ => j29), (75, some 20, fun _ => x8), (75, some 21, fun _ => x11), (75, some 22, fun _ => x9), (75, some 23, fun _ => x5), (75, some 24, fun _ => x12), (75, some 25, fun _ => x10), (75, some 31, fun _ => x7), (86, none, x6)] J [(75, some 26, fun _ => x13)]))) (zwp_bind h) ?_ (fun h => ?_)
      · rintro ⟨j28, j29⟩ h
        refine g_aload_n (pc' := 41)  hc rfl rfl rfl rfl ?_
        refine g_iconst (pc' := 42) (v := (0 : Int32)) hc rfl zki_0 rfl ?_
        refine g_bipush (pc' := 44) (v := (9 : Int32)) hc rfl zkb_9 rfl ?_
        refine z_virt (as := [.int (0 : Int32), .int (9 : Int32)]) (a := 75) (r := []) hc rfl rfl rfl rfl sh_75 rfl zco_172 rfl rfl rfl ?_
        refine ok_X12_number_75 (zdp hd rfl) (zwp_mono (zwp_bind h) ?_)
        rintro ⟨r39, o30, o31, o32, o33, o34, o35, o36, o37, o38⟩ h
        refine z_po (pc' := 47) (st' := [.int r39]) (v := (some (.int r39))) (L' := [(75, some 16, fun _ => o30), (75, some 17, fun _ => o31), (75, some 20, fun _ => o33), (75, some 21, fun _ => o36), (75, some 22, fun _ => o34), (75, some 23, fun _ => o32), (75, some 24, fun _ => o37), (75, some 25, fun _ => o35), (75, some 31, fun _ => x7), (86, none, x6)]) (K' := [(75, some 26, fun _ => o38)]) zco_172 rfl rfl rfl rfl rfl rfl rfl rfl ?_
        refine g_istore_n (pc' := 48) (ls1 := [some (.ref 75), some (.int x1), some (.int r39)]) hc rfl (zlt rfl) rfl rfl ?_
        refine g_aload_n (pc' := 49)  hc rfl rfl rfl rfl ?_
        refine z_virt (as := []) (a := 75) (r := []) hc rfl rfl rfl rfl sh_75 rfl zco_169 rfl rfl rfl ?_
        refine ok_X12_isGood_75 (zdp hd rfl) (zwp_mono (zwp_bind h) ?_)
        rintro r40 h
        refine z_po (pc' := 52) (st' := [.int r40]) (v := (some (.int r40))) (L' := [(75, some 16, fun _ => o30), (75, some 17, fun _ => o31), (75, some 20, fun _ => o33), (75, some 21, fun _ => o36), (75, some 22, fun _ => o34), (75, some 23, fun _ => o32), (75, some 24, fun _ => o37), (75, some 25, fun _ => o35), (75, some 31, fun _ => x7), (86, none, x6)]) (K' := [(75, some 26, fun _ => o38)]) zco_169 rfl rfl rfl rfl rfl rfl rfl rfl ?_
        refine g_if_ne (pc' := 55) hc rfl rfl (fun hx => ?_) (fun hx => ?_)
        · replace h := zwp_f h hx
          refine g_aload_n (pc' := 57)  hc rfl rfl rfl rfl ?_
          refine z_getR (pc' := 60)  hc rfl rfl rfl sh_75 rfl rfl ?_
          refine g_aload_n (pc' := 61)  hc rfl rfl rfl rfl ?_
          refine z_getI (pc' := 64) (v := x7) hc rfl rfl rfl sh_75 rfl rfl rfl ?_
          refine g_iload_n (pc' := 65)  hc rfl rfl rfl ?_
          have hb := (zwp_bnd h).1
          replace h := (zwp_bnd h).2
          refine z_iastore (pc' := 66) (g := x6) (L' := [(75, some 16, fun _ => o30), (75, some 17, fun _ => o31), (75, some 20, fun _ => o33), (75, some 21, fun _ => o36), (75, some 22, fun _ => o34), (75, some 23, fun _ => o32), (75, some 24, fun _ => o37), (75, some 25, fun _ => o35), (75, some 31, fun _ => x7), (86, none, (upd x6 x7.toNatClampNeg r39))]) hc rfl rfl sh_86 hb rfl rfl rfl rfl ?_
          refine g_aload_n (pc' := 67)  hc rfl rfl rfl rfl ?_
          refine g_dup (pc' := 68)  hc rfl rfl rfl ?_
          refine z_getI (pc' := 71) (v := x7) hc rfl rfl rfl sh_75 rfl rfl rfl ?_
          refine g_iconst (pc' := 72) (v := (1 : Int32)) hc rfl zki_1 rfl ?_
          refine g_iadd (pc' := 73)  hc rfl rfl ?_
          refine z_putI (pc' := 76) (L' := [(75, some 16, fun _ => o30), (75, some 17, fun _ => o31), (75, some 20, fun _ => o33), (75, some 21, fun _ => o36), (75, some 22, fun _ => o34), (75, some 23, fun _ => o32), (75, some 24, fun _ => o37), (75, some 25, fun _ => o35), (75, some 31, fun _ => (x7 + (1 : Int32))), (86, none, (upd x6 x7.toNatClampNeg r39))]) hc rfl rfl rfl sh_75 rfl zft_12_31 rfl (fun h => Bool.noConfusion h) rfl rfl rfl ?_
          refine g_aload_n (pc' := 77)  hc rfl rfl rfl rfl ?_
          refine z_getI (pc' := 80) (v := o36) hc rfl rfl rfl sh_75 rfl rfl rfl ?_
          refine g_iconst (pc' := 81) (v := (2 : Int32)) hc rfl zki_2 rfl ?_
          refine zjn (G := (fun (j41 : Int32) => pm_ev C_X12_readsLight (d + 1) (pm_call M cost zext d) cost (false, false) 108 0 0 Q 89 [some (.ref 75), some (.int x1), some (.int r39)] [.int j41] 0 0 (zS p q I [(75, some 16, fun _ => o30), (75, some 17, fun _ => o31), (75, some 20, fun _ => o33), (75, some 21, fun _ => o36), (75, some 22, fun _ => o34), (75, some 23, fun _ => o32), (75, some 24, fun _ => o37), (75, some 25, fun _ => o35), (75, some 31, fun _ => (x7 + (1 : Int32))), (86, none, (upd x6 x7.toNatClampNeg r39))] J [(75, some 26, fun _ => o38)]))) (zwp_bind h) ?_ (fun h => ?_)
          · rintro j41 h
            refine g_istore_n (pc' := 90) (ls1 := [some (.ref 75), some (.int j41), some (.int r39)]) hc rfl (zlt rfl) rfl rfl ?_
            refine g_goto hc rfl ?_
            replace h := zwp_l h
            exact h (some (.int r39)) rfl
          refine g_icmp_ne (pc' := 84) hc rfl rfl (fun hx => ?_) (fun hx => ?_)
          · replace h := zwp_f h hx
            refine g_iconst (pc' := 89) (v := (0 : Int32)) hc rfl zki_0 rfl ?_
            replace h := zws h
            exact h
          · replace h := zwp_t h hx
            refine g_iconst (pc' := 85) (v := (1 : Int32)) hc rfl zki_1 rfl ?_
            refine g_goto hc rfl ?_
            replace h := zws h
            exact h
        · replace h := zwp_t h hx
          replace h := zws h
          exact g_return hc rfl rfl (fun _ => ⟨rfl, rfl⟩) h
      refine g_icmp_ne (pc' := 27) hc rfl rfl (fun hx => ?_) (fun hx => ?_)
      · replace h := zwp_f h hx
        replace h := zws h
        exact h
      · replace h := zwp_t h hx
        refine g_aload_n (pc' := 28)  hc rfl rfl rfl rfl ?_
        refine z_getI (pc' := 31) (v := x11) hc rfl rfl rfl sh_75 rfl rfl rfl ?_
        refine g_iconst (pc' := 32) (v := (2 : Int32)) hc rfl zki_2 rfl ?_
        refine g_icmp_ne (pc' := 35) hc rfl rfl (fun hx => ?_) (fun hx => ?_)
        · replace h := zwp_f h hx
          replace h := zws h
          exact h
        · replace h := zwp_t h hx
          refine g_aload_n (pc' := 36)  hc rfl rfl rfl rfl ?_
          refine g_iconst (pc' := 37) (v := (2 : Int32)) hc rfl zki_2 rfl ?_
          refine z_virt (as := [.int (2 : Int32)]) (a := 75) (r := []) hc rfl rfl rfl rfl sh_75 rfl zco_168 rfl rfl rfl ?_
          refine ok_X12_wrong_75 (zdp hd rfl) (zwp_mono (zwp_bind h) ?_)
          rintro ⟨o42, o43⟩ h
          refine z_po (pc' := 40) (st' := []) (v := none) (L' := [(75, some 16, fun _ => o42), (75, some 17, fun _ => o43), (75, some 20, fun _ => x8), (75, some 21, fun _ => x11), (75, some 22, fun _ => x9), (75, some 23, fun _ => x5), (75, some 24, fun _ => x12), (75, some 25, fun _ => x10), (75, some 31, fun _ => x7), (86, none, x6)]) (K' := [(75, some 26, fun _ => x13)]) zco_168 rfl rfl rfl rfl rfl rfl rfl rfl ?_
          replace h := zws h
          exact h
set_option maxRecDepth 4000 in
theorem ok_X12_deeper_75 {p q : Nat} {I : pI} {J : pJ} {Q : pQ} {d : Nat} (hd : 2 ≤ d) (h : zwp (f_X12_deeper (I 75 39) (I 75 16) (I 75 17) (I 75 22) (I 75 25) (I 75 21) (I 90)) (fun w => match w with | (o0, o1, o2, o3) => Q (.inl none) (zS p q I [(75, some 16, fun _ => o1), (75, some 17, fun _ => o2), (75, some 39, fun _ => o0), (90, none, o3)] J []))) : pm_call M cost zext d 180 [.ref 75] (pm_st 108 (shp p q) I J) Q := by
  obtain ⟨d, rfl⟩ := zd1 hd rfl
  have hc := pm_call_m (M := M) (cost := cost) zext_m d
  refine z_in (L := [(75, some 16, fun _ => (I 75 16)), (75, some 17, fun _ => (I 75 17)), (75, some 39, fun _ => (I 75 39)), (90, none, (I 90))]) (K := []) (ls := [some (.ref 75)]) zmt_180 zco_180 rfl rfl (zid_s (zid_s (zid_s (zid_a zid_n)))) zid_n ?_
  delta f_X12_deeper at h
  refine g_aload_n (pc' := 1)  hc rfl rfl rfl rfl ?_
  refine z_getI (pc' := 4) (v := (I 75 39)) hc rfl rfl rfl sh_75 rfl rfl rfl ?_
  refine g_bipush (pc' := 6) (v := (6 : Int32)) hc rfl zkb_6 rfl ?_
  refine g_icmp_ge (pc' := 9) hc rfl rfl (fun hx => ?_) (fun hx => ?_)
  · replace h := zwp_t h hx
    refine g_aload_n (pc' := 31)  hc rfl rfl rfl rfl ?_
    refine g_aload_n (pc' := 32)  hc rfl rfl rfl rfl ?_
    refine z_getI (pc' := 35) (v := (I 75 21)) hc rfl rfl rfl sh_75 rfl rfl rfl ?_
    refine g_iconst (pc' := 36) (v := (2 : Int32)) hc rfl zki_2 rfl ?_
    refine zjn (G := (fun (j1 : Int32) => pm_ev C_X12_deeper (d + 1) (pm_call M cost zext d) cost (false, false) 108 0 0 Q 61 [some (.ref 75)] [.int j1, .ref 75] 0 0 (zS p q I [(75, some 16, fun _ => (I 75 16)), (75, some 17, fun _ => (I 75 17)), (75, some 39, fun _ => (I 75 39)), (90, none, (I 90))] J []))) (zwp_bind h) ?_ (fun h => ?_)
    · rintro j1 h
      refine z_virt (as := [.int j1]) (a := 75) (r := []) hc rfl rfl rfl rfl sh_75 rfl zco_168 rfl rfl rfl ?_
      refine ok_X12_wrong_75 (zdp hd rfl) (zwp_mono (zwp_bind h) ?_)
      rintro ⟨o2, o3⟩ h
      refine z_po (pc' := 64) (st' := []) (v := none) (L' := [(75, some 16, fun _ => o2), (75, some 17, fun _ => o3), (75, some 39, fun _ => (I 75 39)), (90, none, (I 90))]) (K' := []) zco_168 rfl rfl rfl rfl rfl rfl rfl rfl ?_
      replace h := zws h
      exact g_return hc rfl rfl (fun _ => ⟨rfl, rfl⟩) h
    refine g_icmp_eq (pc' := 39) hc rfl rfl (fun hx => ?_) (fun hx => ?_)
    · replace h := zwp_t h hx
      refine g_iconst (pc' := 57) (v := (2 : Int32)) hc rfl zki_2 rfl ?_
      refine g_goto hc rfl ?_
      replace h := zws h
      exact h
    · replace h := zwp_f h hx
      refine g_aload_n (pc' := 40)  hc rfl rfl rfl rfl ?_
      refine z_getI (pc' := 43) (v := (I 75 21)) hc rfl rfl rfl sh_75 rfl rfl rfl ?_
      refine g_iconst (pc' := 44) (v := (1 : Int32)) hc rfl zki_1 rfl ?_
      refine g_icmp_eq (pc' := 47) hc rfl rfl (fun hx => ?_) (fun hx => ?_)
      · replace h := zwp_t h hx
        refine g_iconst (pc' := 57) (v := (2 : Int32)) hc rfl zki_2 rfl ?_
        refine g_goto hc rfl ?_
        replace h := zws h
        exact h
      · replace h := zwp_f h hx
        refine g_aload_n (pc' := 48)  hc rfl rfl rfl rfl ?_
        refine g_bipush (pc' := 50) (v := (40 : Int32)) hc rfl zkb_40 rfl ?_
        refine z_virt (as := [.int (40 : Int32)]) (a := 75) (r := [.ref 75]) hc rfl rfl rfl rfl sh_75 rfl zco_170 rfl rfl rfl ?_
        refine ok_X12_isSign_75 (zdp hd rfl) (zwp_mono (zwp_bind h) ?_)
        rintro r4 h
        refine z_po (pc' := 53) (st' := [.int r4, .ref 75]) (v := (some (.int r4))) (L' := [(75, some 16, fun _ => (I 75 16)), (75, some 17, fun _ => (I 75 17)), (75, some 39, fun _ => (I 75 39)), (90, none, (I 90))]) (K' := []) zco_170 rfl rfl rfl rfl rfl rfl rfl rfl ?_
        refine g_if_eq (pc' := 56) hc rfl rfl (fun hx => ?_) (fun hx => ?_)
        · replace h := zwp_t h hx
          refine g_iconst (pc' := 61) (v := (1 : Int32)) hc rfl zki_1 rfl ?_
          replace h := zws h
          exact h
        · replace h := zwp_f h hx
          refine g_iconst (pc' := 57) (v := (2 : Int32)) hc rfl zki_2 rfl ?_
          refine g_goto hc rfl ?_
          replace h := zws h
          exact h
  · replace h := zwp_f h hx
    refine g_aload_n (pc' := 10)  hc rfl rfl rfl rfl ?_
    refine g_dup (pc' := 11)  hc rfl rfl rfl ?_
    refine z_getI (pc' := 14) (v := (I 75 39)) hc rfl rfl rfl sh_75 rfl rfl rfl ?_
    refine g_iconst (pc' := 15) (v := (1 : Int32)) hc rfl zki_1 rfl ?_
    refine g_iadd (pc' := 16)  hc rfl rfl ?_
    refine z_putI (pc' := 19) (L' := [(75, some 16, fun _ => (I 75 16)), (75, some 17, fun _ => (I 75 17)), (75, some 39, fun _ => (((I 75 39)) + (1 : Int32))), (90, none, (I 90))]) hc rfl rfl rfl sh_75 rfl zft_12_39 rfl (fun h => Bool.noConfusion h) rfl rfl rfl ?_
    refine g_aload_n (pc' := 20)  hc rfl rfl rfl rfl ?_
    refine z_getR (pc' := 23)  hc rfl rfl rfl sh_75 rfl rfl ?_
    refine g_aload_n (pc' := 24)  hc rfl rfl rfl rfl ?_
    refine z_getI (pc' := 27) (v := (((I 75 39)) + (1 : Int32))) hc rfl rfl rfl sh_75 rfl rfl rfl ?_
    refine g_iconst (pc' := 28) (v := (0 : Int32)) hc rfl zki_0 rfl ?_
    have hb := (zwp_bnd h).1
    replace h := (zwp_bnd h).2
    refine z_bastore (pc' := 29) (g := (I 90)) (L' := [(75, some 16, fun _ => (I 75 16)), (75, some 17, fun _ => (I 75 17)), (75, some 39, fun _ => (((I 75 39)) + (1 : Int32))), (90, none, (upd ((I 90)) (((I 75 39)) + (1 : Int32)).toNatClampNeg (vp_nar .boolean (0 : Int32))))]) hc rfl rfl sh_90 hb rfl rfl rfl rfl ?_
    replace h := zws h
    exact g_return hc rfl rfl (fun _ => ⟨rfl, rfl⟩) h
set_option maxRecDepth 4000 in
theorem ok_X12_waitsFor_75 {p q : Nat} {I : pI} {J : pJ} {a1 : Int32} {Q : pQ} {d : Nat} (hd : 1 ≤ d) (h : zwp (f_X12_waitsFor a1 (I 75 38) (I 89)) (fun w => match w with | (o0, o1) => Q (.inl none) (zS p q I [(75, some 38, fun _ => o0), (89, none, o1)] J []))) : pm_call M cost zext d 178 [.ref 75, .int a1] (pm_st 108 (shp p q) I J) Q := by
  obtain ⟨d, rfl⟩ := zd1 hd rfl
  have hc := pm_call_m (M := M) (cost := cost) zext_m d
  refine z_in (L := [(75, some 38, fun _ => (I 75 38)), (89, none, (I 89))]) (K := []) (ls := [some (.ref 75), some (.int a1)]) zmt_178 zco_178 rfl rfl (zid_s (zid_a zid_n)) zid_n ?_
  delta f_X12_waitsFor at h
  refine g_aload_n (pc' := 1)  hc rfl rfl rfl rfl ?_
  refine z_getR (pc' := 4)  hc rfl rfl rfl sh_75 rfl rfl ?_
  refine g_aload_n (pc' := 5)  hc rfl rfl rfl rfl ?_
  refine z_getI (pc' := 8) (v := (I 75 38)) hc rfl rfl rfl sh_75 rfl rfl rfl ?_
  refine g_iload_n (pc' := 9)  hc rfl rfl rfl ?_
  have hb := (zwp_bnd h).1
  replace h := (zwp_bnd h).2
  refine z_iastore (pc' := 10) (g := (I 89)) (L' := [(75, some 38, fun _ => (I 75 38)), (89, none, (upd ((I 89)) ((I 75 38)).toNatClampNeg a1))]) hc rfl rfl sh_89 hb rfl rfl rfl rfl ?_
  refine g_aload_n (pc' := 11)  hc rfl rfl rfl rfl ?_
  refine g_dup (pc' := 12)  hc rfl rfl rfl ?_
  refine z_getI (pc' := 15) (v := (I 75 38)) hc rfl rfl rfl sh_75 rfl rfl rfl ?_
  refine g_iconst (pc' := 16) (v := (1 : Int32)) hc rfl zki_1 rfl ?_
  refine g_iadd (pc' := 17)  hc rfl rfl ?_
  refine z_putI (pc' := 20) (L' := [(75, some 38, fun _ => (((I 75 38)) + (1 : Int32))), (89, none, (upd ((I 89)) ((I 75 38)).toNatClampNeg a1))]) hc rfl rfl rfl sh_75 rfl zft_12_38 rfl (fun h => Bool.noConfusion h) rfl rfl rfl ?_
  replace h := zws h
  exact g_return hc rfl rfl (fun _ => ⟨rfl, rfl⟩) h
set_option maxRecDepth 4000 in
theorem ok_X12_puts_75 {p q : Nat} {I : pI} {J : pJ} {a1 : Int32} {Q : pQ} {d : Nat} (hd : 1 ≤ d) (h : zwp (f_X12_puts a1 (I 88) (I 75 35)) (fun w => match w with | (o0, o1) => Q (.inl none) (zS p q I [(75, some 35, fun _ => o1), (88, none, o0)] J []))) : pm_call M cost zext d 174 [.ref 75, .int a1] (pm_st 108 (shp p q) I J) Q := by
  obtain ⟨d, rfl⟩ := zd1 hd rfl
  have hc := pm_call_m (M := M) (cost := cost) zext_m d
  refine z_in (L := [(75, some 35, fun _ => (I 75 35)), (88, none, (I 88))]) (K := []) (ls := [some (.ref 75), some (.int a1)]) zmt_174 zco_174 rfl rfl (zid_s (zid_a zid_n)) zid_n ?_
  delta f_X12_puts at h
  refine g_aload_n (pc' := 1)  hc rfl rfl rfl rfl ?_
  refine z_getR (pc' := 4)  hc rfl rfl rfl sh_75 rfl rfl ?_
  refine g_aload_n (pc' := 5)  hc rfl rfl rfl rfl ?_
  refine z_getI (pc' := 8) (v := (I 75 35)) hc rfl rfl rfl sh_75 rfl rfl rfl ?_
  refine g_iload_n (pc' := 9)  hc rfl rfl rfl ?_
  have hb := (zwp_bnd h).1
  replace h := (zwp_bnd h).2
  refine z_iastore (pc' := 10) (g := (I 88)) (L' := [(75, some 35, fun _ => (I 75 35)), (88, none, (upd ((I 88)) ((I 75 35)).toNatClampNeg a1))]) hc rfl rfl sh_88 hb rfl rfl rfl rfl ?_
  refine g_aload_n (pc' := 11)  hc rfl rfl rfl rfl ?_
  refine g_dup (pc' := 12)  hc rfl rfl rfl ?_
  refine z_getI (pc' := 15) (v := (I 75 35)) hc rfl rfl rfl sh_75 rfl rfl rfl ?_
  refine g_iconst (pc' := 16) (v := (1 : Int32)) hc rfl zki_1 rfl ?_
  refine g_iadd (pc' := 17)  hc rfl rfl ?_
  refine z_putI (pc' := 20) (L' := [(75, some 35, fun _ => (((I 75 35)) + (1 : Int32))), (88, none, (upd ((I 88)) ((I 75 35)).toNatClampNeg a1))]) hc rfl rfl rfl sh_75 rfl zft_12_35 rfl (fun h => Bool.noConfusion h) rfl rfl rfl ?_
  replace h := zws h
  exact g_return hc rfl rfl (fun _ => ⟨rfl, rfl⟩) h
set_option maxRecDepth 4000 in
theorem ok_X12_part_75 {p q : Nat} {I : pI} {J : pJ} {Q : pQ} {d : Nat} (hd : 4 ≤ d) (h : zwp (f_X12_part (I 75 16) (I 75 17) (I 75 36) (I 75 37) (I 75 23) (I 75 19) (I 75 20) (I 75 22) (I 88) (I 75 25) (I 75 21) (I 81) (I 75 35) (I 75 24) (J 75 26)) (fun w => match w with | (o0, o1, o2, o3, o4, o5, o6, o7, o8, o9, o10) => Q (.inl none) (zS p q I [(75, some 16, fun _ => o0), (75, some 17, fun _ => o1), (75, some 20, fun _ => o3), (75, some 21, fun _ => o7), (75, some 22, fun _ => o4), (75, some 23, fun _ => o2), (75, some 24, fun _ => o9), (75, some 25, fun _ => o6), (75, some 35, fun _ => o8), (88, none, o5)] J [(75, some 26, fun _ => o10)]))) : pm_call M cost zext d 179 [.ref 75] (pm_st 108 (shp p q) I J) Q := by
  obtain ⟨d, rfl⟩ := zd1 hd rfl
  have hc := pm_call_m (M := M) (cost := cost) zext_m d
  refine z_in (L := [(75, some 16, fun _ => (I 75 16)), (75, some 17, fun _ => (I 75 17)), (75, some 20, fun _ => (I 75 20)), (75, some 21, fun _ => (I 75 21)), (75, some 22, fun _ => (I 75 22)), (75, some 23, fun _ => (I 75 23)), (75, some 24, fun _ => (I 75 24)), (75, some 25, fun _ => (I 75 25)), (75, some 35, fun _ => (I 75 35)), (88, none, (I 88))]) (K := [(75, some 26, fun _ => (J 75 26))]) (ls := [some (.ref 75), none]) zmt_179 zco_179 rfl rfl (zid_s (zid_s (zid_s (zid_s (zid_s (zid_s (zid_s (zid_s (zid_s (zid_a zid_n)))))))))) (zid_s zid_n) ?_
  delta f_X12_part at h
  refine g_aload_n (pc' := 1)  hc rfl rfl rfl rfl ?_
  refine z_virt (as := []) (a := 75) (r := []) hc rfl rfl rfl rfl sh_75 rfl zco_169 rfl rfl rfl ?_
  refine ok_X12_isGood_75 (zdp hd rfl) (zwp_mono (zwp_bind h) ?_)
  rintro r1 h
  refine z_po (pc' := 4) (st' := [.int r1]) (v := (some (.int r1))) (L' := [(75, some 16, fun _ => (I 75 16)), (75, some 17, fun _ => (I 75 17)), (75, some 20, fun _ => (I 75 20)), (75, some 21, fun _ => (I 75 21)), (75, some 22, fun _ => (I 75 22)), (75, some 23, fun _ => (I 75 23)), (75, some 24, fun _ => (I 75 24)), (75, some 25, fun _ => (I 75 25)), (75, some 35, fun _ => (I 75 35)), (88, none, (I 88))]) (K' := [(75, some 26, fun _ => (J 75 26))]) zco_169 rfl rfl rfl rfl rfl rfl rfl rfl ?_
  refine g_if_ne (pc' := 7) hc rfl rfl (fun hx => ?_) (fun hx => ?_)
  · replace h := zwp_f h hx
    refine g_aload_n (pc' := 9)  hc rfl rfl rfl rfl ?_
    refine z_getI (pc' := 12) (v := (I 75 21)) hc rfl rfl rfl sh_75 rfl rfl rfl ?_
    refine g_iconst (pc' := 13) (v := (2 : Int32)) hc rfl zki_2 rfl ?_
    refine zjn (G := (fun (g : Int32 × Int32 × (Nat → Int32) × Int32) => match g with | (j3, j4, j5, j6) => ∀ z2 : Option Value, znl z2 = true → pm_ev C_X12_part (d + 1) (pm_call M cost zext d) cost (false, false) 108 0 0 Q 97 [some (.ref 75), z2] [] 0 0 (zS p q I [(75, some 16, fun _ => j3), (75, some 17, fun _ => j4), (75, some 20, fun _ => (I 75 20)), (75, some 21, fun _ => (I 75 21)), (75, some 22, fun _ => (I 75 22)), (75, some 23, fun _ => (I 75 23)), (75, some 24, fun _ => (I 75 24)), (75, some 25, fun _ => (I 75 25)), (75, some 35, fun _ => j6), (88, none, j5)] J [(75, some 26, fun _ => (J 75 26))]))) (zwp_bind h) ?_ (fun h => ?_)
    · rintro ⟨j3, j4, j5, j6⟩ h z2 hz2
      refine g_aload_n (pc' := 98)  hc rfl rfl rfl rfl ?_
      refine z_virt (as := []) (a := 75) (r := []) hc rfl rfl rfl rfl sh_75 rfl zco_169 rfl rfl rfl ?_
      refine ok_X12_isGood_75 (zdp hd rfl) (zwp_mono (zwp_bind h) ?_)
      rintro r7 h
      refine z_po (pc' := 101) (st' := [.int r7]) (v := (some (.int r7))) (L' := [(75, some 16, fun _ => j3), (75, some 17, fun _ => j4), (75, some 20, fun _ => (I 75 20)), (75, some 21, fun _ => (I 75 21)), (75, some 22, fun _ => (I 75 22)), (75, some 23, fun _ => (I 75 23)), (75, some 24, fun _ => (I 75 24)), (75, some 25, fun _ => (I 75 25)), (75, some 35, fun _ => j6), (88, none, j5)]) (K' := [(75, some 26, fun _ => (J 75 26))]) zco_169 rfl rfl rfl rfl rfl rfl rfl rfl ?_
      refine g_if_eq (pc' := 104) hc rfl rfl (fun hx => ?_) (fun hx => ?_)
      · replace h := zwp_t h hx
        replace h := zws h
        exact g_return hc rfl rfl (fun _ => ⟨rfl, rfl⟩) h
      · replace h := zwp_f h hx
        refine g_aload_n (pc' := 105)  hc rfl rfl rfl rfl ?_
        refine z_virt (as := []) (a := 75) (r := []) hc rfl rfl rfl rfl sh_75 rfl zco_164 rfl rfl rfl ?_
        refine ok_X12_goes_75 (zdp hd rfl) (zwp_mono (zwp_bind h) ?_)
        rintro ⟨o8, o9, o10, o11, o12, o13, o14⟩ h
        refine z_po (pc' := 108) (st' := []) (v := none) (L' := [(75, some 16, fun _ => j3), (75, some 17, fun _ => j4), (75, some 20, fun _ => o9), (75, some 21, fun _ => o12), (75, some 22, fun _ => o10), (75, some 23, fun _ => o8), (75, some 24, fun _ => o13), (75, some 25, fun _ => o11), (75, some 35, fun _ => j6), (88, none, j5)]) (K' := [(75, some 26, fun _ => o14)]) zco_164 rfl rfl rfl rfl rfl rfl rfl rfl ?_
        replace h := zws h
        exact g_return hc rfl rfl (fun _ => ⟨rfl, rfl⟩) h
    refine g_icmp_ne (pc' := 16) hc rfl rfl (fun hx => ?_) (fun hx => ?_)
    · replace h := zwp_f h hx
      refine g_aload_n (pc' := 46)  hc rfl rfl rfl rfl ?_
      refine z_getI (pc' := 49) (v := (I 75 21)) hc rfl rfl rfl sh_75 rfl rfl rfl ?_
      refine g_iconst (pc' := 50) (v := (1 : Int32)) hc rfl zki_1 rfl ?_
      refine g_icmp_ne (pc' := 53) hc rfl rfl (fun hx => ?_) (fun hx => ?_)
      · replace h := zwp_f h hx
        refine g_aload_n (pc' := 93)  hc rfl rfl rfl rfl ?_
        refine g_iconst (pc' := 94) (v := (1 : Int32)) hc rfl zki_1 rfl ?_
        refine z_virt (as := [.int (1 : Int32)]) (a := 75) (r := []) hc rfl rfl rfl rfl sh_75 rfl zco_168 rfl rfl rfl ?_
        refine ok_X12_wrong_75 (zdp hd rfl) (zwp_mono (zwp_bind h) ?_)
        rintro ⟨o15, o16⟩ h
        refine z_po (pc' := 97) (st' := []) (v := none) (L' := [(75, some 16, fun _ => o15), (75, some 17, fun _ => o16), (75, some 20, fun _ => (I 75 20)), (75, some 21, fun _ => (I 75 21)), (75, some 22, fun _ => (I 75 22)), (75, some 23, fun _ => (I 75 23)), (75, some 24, fun _ => (I 75 24)), (75, some 25, fun _ => (I 75 25)), (75, some 35, fun _ => (I 75 35)), (88, none, (I 88))]) (K' := [(75, some 26, fun _ => (J 75 26))]) zco_168 rfl rfl rfl rfl rfl rfl rfl rfl ?_
        replace h := zws h
        exact h none rfl
      · replace h := zwp_t h hx
        refine g_aload_n (pc' := 54)  hc rfl rfl rfl rfl ?_
        refine z_virt (as := []) (a := 75) (r := []) hc rfl rfl rfl rfl sh_75 rfl zco_167 rfl rfl rfl ?_
        refine ok_X12_knownWord_75 (zdp hd rfl) (zwp_mono (zwp_bind h) ?_)
        rintro r17 h
        refine z_po (pc' := 57) (st' := [.int r17]) (v := (some (.int r17))) (L' := [(75, some 16, fun _ => (I 75 16)), (75, some 17, fun _ => (I 75 17)), (75, some 20, fun _ => (I 75 20)), (75, some 21, fun _ => (I 75 21)), (75, some 22, fun _ => (I 75 22)), (75, some 23, fun _ => (I 75 23)), (75, some 24, fun _ => (I 75 24)), (75, some 25, fun _ => (I 75 25)), (75, some 35, fun _ => (I 75 35)), (88, none, (I 88))]) (K' := [(75, some 26, fun _ => (J 75 26))]) zco_167 rfl rfl rfl rfl rfl rfl rfl rfl ?_
        refine g_istore_n (pc' := 58) (ls1 := [some (.ref 75), some (.int r17)]) hc rfl (zlt rfl) rfl rfl ?_
        refine g_iload_n (pc' := 59)  hc rfl rfl rfl ?_
        refine g_aload_n (pc' := 60)  hc rfl rfl rfl rfl ?_
        refine z_getI (pc' := 63) (v := (I 75 36)) hc rfl rfl rfl sh_75 rfl rfl rfl ?_
        refine zjn (G := (fun (g : Int32 × Int32) => match g with | (j18, j19) => pm_ev C_X12_part (d + 1) (pm_call M cost zext d) cost (false, false) 108 0 0 Q 79 [some (.ref 75), some (.int r17)] [] 0 0 (zS p q I [(75, some 16, fun _ => j18), (75, some 17, fun _ => j19), (75, some 20, fun _ => (I 75 20)), (75, some 21, fun _ => (I 75 21)), (75, some 22, fun _ => (I 75 22)), (75, some 23, fun _ => (I 75 23)), (75, some 24, fun _ => (I 75 24)), (75, some 25, fun _ => (I 75 25)), (75, some 35, fun _ => (I 75 35)), (88, none, (I 88))] J [(75, some 26, fun _ => (J 75 26))]))) (zwp_bind h) ?_ (fun h => ?_)
        · rintro ⟨j18, j19⟩ h
          refine g_aload_n (pc' := 80)  hc rfl rfl rfl rfl ?_
          refine g_iconst (pc' := 81) (v := (2 : Int32)) hc rfl zki_2 rfl ?_
          refine z_virt (as := [.int (2 : Int32)]) (a := 75) (r := []) hc rfl rfl rfl rfl sh_75 rfl zco_174 rfl rfl rfl ?_
          refine ok_X12_puts_75 (zdp hd rfl) (zwp_mono (zwp_bind h) ?_)
          rintro ⟨o20, o21⟩ h
          refine z_po (pc' := 84) (st' := []) (v := none) (L' := [(75, some 16, fun _ => j18), (75, some 17, fun _ => j19), (75, some 20, fun _ => (I 75 20)), (75, some 21, fun _ => (I 75 21)), (75, some 22, fun _ => (I 75 22)), (75, some 23, fun _ => (I 75 23)), (75, some 24, fun _ => (I 75 24)), (75, some 25, fun _ => (I 75 25)), (75, some 35, fun _ => o21), (88, none, o20)]) (K' := [(75, some 26, fun _ => (J 75 26))]) zco_174 rfl rfl rfl rfl rfl rfl rfl rfl ?_
          refine g_aload_n (pc' := 85)  hc rfl rfl rfl rfl ?_
          refine g_iload_n (pc' := 86)  hc rfl rfl rfl ?_
          refine z_virt (as := [.int r17]) (a := 75) (r := []) hc rfl rfl rfl rfl sh_75 rfl zco_174 rfl rfl rfl ?_
          refine ok_X12_puts_75 (zdp hd rfl) (zwp_mono (zwp_bind h) ?_)
          rintro ⟨o22, o23⟩ h
          refine z_po (pc' := 89) (st' := []) (v := none) (L' := [(75, some 16, fun _ => j18), (75, some 17, fun _ => j19), (75, some 20, fun _ => (I 75 20)), (75, some 21, fun _ => (I 75 21)), (75, some 22, fun _ => (I 75 22)), (75, some 23, fun _ => (I 75 23)), (75, some 24, fun _ => (I 75 24)), (75, some 25, fun _ => (I 75 25)), (75, some 35, fun _ => o23), (88, none, o22)]) (K' := [(75, some 26, fun _ => (J 75 26))]) zco_174 rfl rfl rfl rfl rfl rfl rfl rfl ?_
          refine g_goto hc rfl ?_
          replace h := zws h
          exact h (some (.int r17)) rfl
        refine g_icmp_lt (pc' := 66) hc rfl rfl (fun hx => ?_) (fun hx => ?_)
        · replace h := zwp_t h hx
          refine g_aload_n (pc' := 75)  hc rfl rfl rfl rfl ?_
          refine g_iconst (pc' := 76) (v := (3 : Int32)) hc rfl zki_3 rfl ?_
          refine z_virt (as := [.int (3 : Int32)]) (a := 75) (r := []) hc rfl rfl rfl rfl sh_75 rfl zco_168 rfl rfl rfl ?_
          refine ok_X12_wrong_75 (zdp hd rfl) (zwp_mono (zwp_bind h) ?_)
          rintro ⟨o24, o25⟩ h
          refine z_po (pc' := 79) (st' := []) (v := none) (L' := [(75, some 16, fun _ => o24), (75, some 17, fun _ => o25), (75, some 20, fun _ => (I 75 20)), (75, some 21, fun _ => (I 75 21)), (75, some 22, fun _ => (I 75 22)), (75, some 23, fun _ => (I 75 23)), (75, some 24, fun _ => (I 75 24)), (75, some 25, fun _ => (I 75 25)), (75, some 35, fun _ => (I 75 35)), (88, none, (I 88))]) (K' := [(75, some 26, fun _ => (J 75 26))]) zco_168 rfl rfl rfl rfl rfl rfl rfl rfl ?_
          replace h := zws h
          exact h
        · replace h := zwp_f h hx
          refine g_iload_n (pc' := 67)  hc rfl rfl rfl ?_
          refine g_aload_n (pc' := 68)  hc rfl rfl rfl rfl ?_
          refine z_getI (pc' := 71) (v := (I 75 37)) hc rfl rfl rfl sh_75 rfl rfl rfl ?_
          refine g_icmp_le (pc' := 74) hc rfl rfl (fun hx => ?_) (fun hx => ?_)
          · replace h := zwp_t h hx
            replace h := zws h
            exact h
          · replace h := zwp_f h hx
            refine g_aload_n (pc' := 75)  hc rfl rfl rfl rfl ?_
            refine g_iconst (pc' := 76) (v := (3 : Int32)) hc rfl zki_3 rfl ?_
            refine z_virt (as := [.int (3 : Int32)]) (a := 75) (r := []) hc rfl rfl rfl rfl sh_75 rfl zco_168 rfl rfl rfl ?_
            refine ok_X12_wrong_75 (zdp hd rfl) (zwp_mono (zwp_bind h) ?_)
            rintro ⟨o26, o27⟩ h
            refine z_po (pc' := 79) (st' := []) (v := none) (L' := [(75, some 16, fun _ => o26), (75, some 17, fun _ => o27), (75, some 20, fun _ => (I 75 20)), (75, some 21, fun _ => (I 75 21)), (75, some 22, fun _ => (I 75 22)), (75, some 23, fun _ => (I 75 23)), (75, some 24, fun _ => (I 75 24)), (75, some 25, fun _ => (I 75 25)), (75, some 35, fun _ => (I 75 35)), (88, none, (I 88))]) (K' := [(75, some 26, fun _ => (J 75 26))]) zco_168 rfl rfl rfl rfl rfl rfl rfl rfl ?_
            replace h := zws h
            exact h
    · replace h := zwp_t h hx
      refine g_aload_n (pc' := 17)  hc rfl rfl rfl rfl ?_
      refine z_getI (pc' := 20) (v := (I 75 23)) hc rfl rfl rfl sh_75 rfl rfl rfl ?_
      refine g_iconst (pc' := 21) (v := (4 : Int32)) hc rfl zki_4 rfl ?_
      refine zjn (G := (fun (g : Int32 × Int32) => match g with | (j28, j29) => pm_ev C_X12_part (d + 1) (pm_call M cost zext d) cost (false, false) 108 0 0 Q 29 [some (.ref 75), none] [] 0 0 (zS p q I [(75, some 16, fun _ => j28), (75, some 17, fun _ => j29), (75, some 20, fun _ => (I 75 20)), (75, some 21, fun _ => (I 75 21)), (75, some 22, fun _ => (I 75 22)), (75, some 23, fun _ => (I 75 23)), (75, some 24, fun _ => (I 75 24)), (75, some 25, fun _ => (I 75 25)), (75, some 35, fun _ => (I 75 35)), (88, none, (I 88))] J [(75, some 26, fun _ => (J 75 26))]))) (zwp_bind h) ?_ (fun h => ?_)
      · rintro ⟨j28, j29⟩ h
        refine g_aload_n (pc' := 30)  hc rfl rfl rfl rfl ?_
        refine g_iconst (pc' := 31) (v := (1 : Int32)) hc rfl zki_1 rfl ?_
        refine z_virt (as := [.int (1 : Int32)]) (a := 75) (r := []) hc rfl rfl rfl rfl sh_75 rfl zco_174 rfl rfl rfl ?_
        refine ok_X12_puts_75 (zdp hd rfl) (zwp_mono (zwp_bind h) ?_)
        rintro ⟨o30, o31⟩ h
        refine z_po (pc' := 34) (st' := []) (v := none) (L' := [(75, some 16, fun _ => j28), (75, some 17, fun _ => j29), (75, some 20, fun _ => (I 75 20)), (75, some 21, fun _ => (I 75 21)), (75, some 22, fun _ => (I 75 22)), (75, some 23, fun _ => (I 75 23)), (75, some 24, fun _ => (I 75 24)), (75, some 25, fun _ => (I 75 25)), (75, some 35, fun _ => o31), (88, none, o30)]) (K' := [(75, some 26, fun _ => (J 75 26))]) zco_174 rfl rfl rfl rfl rfl rfl rfl rfl ?_
        refine g_aload_n (pc' := 35)  hc rfl rfl rfl rfl ?_
        refine g_aload_n (pc' := 36)  hc rfl rfl rfl rfl ?_
        refine z_getI (pc' := 39) (v := (I 75 24)) hc rfl rfl rfl sh_75 rfl rfl rfl ?_
        refine z_virt (as := [.int (I 75 24)]) (a := 75) (r := []) hc rfl rfl rfl rfl sh_75 rfl zco_174 rfl rfl rfl ?_
        refine ok_X12_puts_75 (zdp hd rfl) (zwp_mono (zwp_bind h) ?_)
        rintro ⟨o32, o33⟩ h
        refine z_po (pc' := 42) (st' := []) (v := none) (L' := [(75, some 16, fun _ => j28), (75, some 17, fun _ => j29), (75, some 20, fun _ => (I 75 20)), (75, some 21, fun _ => (I 75 21)), (75, some 22, fun _ => (I 75 22)), (75, some 23, fun _ => (I 75 23)), (75, some 24, fun _ => (I 75 24)), (75, some 25, fun _ => (I 75 25)), (75, some 35, fun _ => o33), (88, none, o32)]) (K' := [(75, some 26, fun _ => (J 75 26))]) zco_174 rfl rfl rfl rfl rfl rfl rfl rfl ?_
        refine g_goto hc rfl ?_
        replace h := zws h
        exact h none rfl
      refine g_icmp_le (pc' := 24) hc rfl rfl (fun hx => ?_) (fun hx => ?_)
      · replace h := zwp_t h hx
        replace h := zws h
        exact h
      · replace h := zwp_f h hx
        refine g_aload_n (pc' := 25)  hc rfl rfl rfl rfl ?_
        refine g_iconst (pc' := 26) (v := (2 : Int32)) hc rfl zki_2 rfl ?_
        refine z_virt (as := [.int (2 : Int32)]) (a := 75) (r := []) hc rfl rfl rfl rfl sh_75 rfl zco_168 rfl rfl rfl ?_
        refine ok_X12_wrong_75 (zdp hd rfl) (zwp_mono (zwp_bind h) ?_)
        rintro ⟨o34, o35⟩ h
        refine z_po (pc' := 29) (st' := []) (v := none) (L' := [(75, some 16, fun _ => o34), (75, some 17, fun _ => o35), (75, some 20, fun _ => (I 75 20)), (75, some 21, fun _ => (I 75 21)), (75, some 22, fun _ => (I 75 22)), (75, some 23, fun _ => (I 75 23)), (75, some 24, fun _ => (I 75 24)), (75, some 25, fun _ => (I 75 25)), (75, some 35, fun _ => (I 75 35)), (88, none, (I 88))]) (K' := [(75, some 26, fun _ => (J 75 26))]) zco_168 rfl rfl rfl rfl rfl rfl rfl rfl ?_
        replace h := zws h
        exact h
  · replace h := zwp_t h hx
    replace h := zws h
    exact g_return hc rfl rfl (fun _ => ⟨rfl, rfl⟩) h
set_option maxRecDepth 4000 in
theorem ok_X12_operand_75 {p q : Nat} {I : pI} {J : pJ} {a1 : Int32} {Q : pQ} {d : Nat} (hd : 5 ≤ d) (h : zwp (f_X12_operand a1 (I 75 39) (I 75 16) (I 75 17) (I 75 36) (I 75 37) (I 75 23) (I 75 19) (I 75 20) (I 75 22) (I 88) (I 75 25) (I 75 21) (I 81) (I 90) (I 75 35) (I 75 24) (I 75 38) (I 89) (J 75 26)) (fun w => match w with | (o0, o1, o2, o3, o4, o5, o6, o7, o8, o9, o10, o11, o12, o13, o14) => Q (.inl none) (zS p q I [(75, some 16, fun _ => o1), (75, some 17, fun _ => o2), (75, some 20, fun _ => o4), (75, some 21, fun _ => o8), (75, some 22, fun _ => o5), (75, some 23, fun _ => o3), (75, some 24, fun _ => o11), (75, some 25, fun _ => o7), (75, some 35, fun _ => o10), (75, some 38, fun _ => o12), (75, some 39, fun _ => o0), (88, none, o6), (89, none, o13), (90, none, o9)] J [(75, some 26, fun _ => o14)]))) : pm_call M cost zext d 181 [.ref 75, .int a1] (pm_st 108 (shp p q) I J) Q := by
  obtain ⟨d, rfl⟩ := zd1 hd rfl
  have hc := pm_call_m (M := M) (cost := cost) zext_m d
  refine z_in (L := [(75, some 16, fun _ => (I 75 16)), (75, some 17, fun _ => (I 75 17)), (75, some 20, fun _ => (I 75 20)), (75, some 21, fun _ => (I 75 21)), (75, some 22, fun _ => (I 75 22)), (75, some 23, fun _ => (I 75 23)), (75, some 24, fun _ => (I 75 24)), (75, some 25, fun _ => (I 75 25)), (75, some 35, fun _ => (I 75 35)), (75, some 38, fun _ => (I 75 38)), (75, some 39, fun _ => (I 75 39)), (88, none, (I 88)), (89, none, (I 89)), (90, none, (I 90))]) (K := [(75, some 26, fun _ => (J 75 26))]) (ls := [some (.ref 75), some (.int a1), none, none, none]) zmt_181 zco_181 rfl rfl (zid_s (zid_s (zid_s (zid_s (zid_s (zid_s (zid_s (zid_s (zid_s (zid_s (zid_s (zid_a (zid_a (zid_a zid_n)))))))))))))) (zid_s zid_n) ?_
  delta f_X12_operand at h
  refine g_iload_n (pc' := 1)  hc rfl rfl rfl ?_
  refine g_istore_n (pc' := 2) (ls1 := [some (.ref 75), some (.int a1), some (.int a1), none, none]) hc rfl (zlt rfl) rfl rfl ?_
  refine g_iconst (pc' := 3) (v := (1 : Int32)) hc rfl zki_1 rfl ?_
  refine g_istore_n (pc' := 4) (ls1 := [some (.ref 75), some (.int a1), some (.int a1), some (.int (1 : Int32)), none]) hc rfl (zlt rfl) rfl rfl ?_
  refine zjn (G := (fun (g : Int32 × Int32 × Int32 × Int32 × Int32 × Int32 × Int32 × Int32 × (Nat → Int32) × Int32 × Int32 × (Nat → Int32) × Int64) => match g with | (y20, y21, y22, y23, y24, y25, y26, y27, y28, y29, y30, y31, y32) => ∀ z17 : Option Value, znl z17 = true → ∀ z18 : Option Value, znl z18 = true → ∀ z19 : Option Value, znl z19 = true → pm_ev C_X12_operand (d + 1) (pm_call M cost zext d) cost (false, false) 108 0 0 Q 120 [some (.ref 75), some (.int a1), z17, z18, z19] [] 0 0 (zS p q I [(75, some 16, fun _ => y21), (75, some 17, fun _ => y22), (75, some 20, fun _ => y24), (75, some 21, fun _ => y27), (75, some 22, fun _ => y25), (75, some 23, fun _ => y23), (75, some 24, fun _ => y29), (75, some 25, fun _ => y26), (75, some 35, fun _ => (I 75 35)), (75, some 38, fun _ => y30), (75, some 39, fun _ => y20), (88, none, (I 88)), (89, none, y31), (90, none, y28)] J [(75, some 26, fun _ => y32)]))) (zwp_bind h) ?_ (fun h => ?_)
  · rintro ⟨y20, y21, y22, y23, y24, y25, y26, y27, y28, y29, y30, y31, y32⟩ h z17 hz17 z18 hz18 z19 hz19
    refine g_aload_n (pc' := 121)  hc rfl rfl rfl rfl ?_
    refine z_virt (as := []) (a := 75) (r := []) hc rfl rfl rfl rfl sh_75 rfl zco_179 rfl rfl rfl ?_
    refine ok_X12_part_75 (zdp hd rfl) (zwp_mono (zwp_bind h) ?_)
    rintro ⟨o33, o34, o35, o36, o37, o38, o39, o40, o41, o42, o43⟩ h
    refine z_po (pc' := 124) (st' := []) (v := none) (L' := [(75, some 16, fun _ => o33), (75, some 17, fun _ => o34), (75, some 20, fun _ => o36), (75, some 21, fun _ => o40), (75, some 22, fun _ => o37), (75, some 23, fun _ => o35), (75, some 24, fun _ => o42), (75, some 25, fun _ => o39), (75, some 35, fun _ => o41), (75, some 38, fun _ => y30), (75, some 39, fun _ => y20), (88, none, o38), (89, none, y31), (90, none, y28)]) (K' := [(75, some 26, fun _ => o43)]) zco_179 rfl rfl rfl rfl rfl rfl rfl rfl ?_
    replace h := zws h
    exact g_return hc rfl rfl (fun _ => ⟨rfl, rfl⟩) h
  refine zitr_ev (G := (fun (g : Int32 × Int32 × Int32 × Int32 × Int32 × Int32 × Int32 × Int32 × Int32 × Int32 × (Nat → Int32) × Int32 × Int32 × (Nat → Int32) × Int64) => match g with | (x1, x2, x4, x5, x6, x7, x8, x9, x10, x11, x12, x13, x14, x15, x16) => ∀ z3 : Option Value, znl z3 = true → pm_ev C_X12_operand (d + 1) (pm_call M cost zext d) cost (false, false) 108 0 0 Q 4 [some (.ref 75), some (.int a1), some (.int x1), some (.int x2), z3] [] 0 0 (zS p q I [(75, some 16, fun _ => x5), (75, some 17, fun _ => x6), (75, some 20, fun _ => x8), (75, some 21, fun _ => x11), (75, some 22, fun _ => x9), (75, some 23, fun _ => x7), (75, some 24, fun _ => x13), (75, some 25, fun _ => x10), (75, some 35, fun _ => (I 75 35)), (75, some 38, fun _ => x14), (75, some 39, fun _ => x4), (88, none, (I 88)), (89, none, x15), (90, none, x12)] J [(75, some 26, fun _ => x16)]))) ?_ zFU (a1, (1 : Int32), (I 75 39), (I 75 16), (I 75 17), (I 75 23), (I 75 20), (I 75 22), (I 75 25), (I 75 21), (I 90), (I 75 24), (I 75 38), (I 89), (J 75 26)) h none rfl
  rintro ⟨x1, x2, x4, x5, x6, x7, x8, x9, x10, x11, x12, x13, x14, x15, x16⟩ h z3 hz3
  refine g_iload_n (pc' := 5)  hc rfl rfl rfl ?_
  refine g_if_eq (pc' := 8) hc rfl rfl (fun hx => ?_) (fun hx => ?_)
  · replace h := zwp_t h hx
    replace h := zwp_r h
    exact h (some (.int x1)) rfl (some (.int x2)) rfl z3 hz3
  · replace h := zwp_f h hx
    refine g_aload_n (pc' := 9)  hc rfl rfl rfl rfl ?_
    refine z_virt (as := []) (a := 75) (r := []) hc rfl rfl rfl rfl sh_75 rfl zco_169 rfl rfl rfl ?_
    refine ok_X12_isGood_75 (zdp hd rfl) (zwp_mono (zwp_bind h) ?_)
    rintro r44 h
    refine z_po (pc' := 12) (st' := [.int r44]) (v := (some (.int r44))) (L' := [(75, some 16, fun _ => x5), (75, some 17, fun _ => x6), (75, some 20, fun _ => x8), (75, some 21, fun _ => x11), (75, some 22, fun _ => x9), (75, some 23, fun _ => x7), (75, some 24, fun _ => x13), (75, some 25, fun _ => x10), (75, some 35, fun _ => (I 75 35)), (75, some 38, fun _ => x14), (75, some 39, fun _ => x4), (88, none, (I 88)), (89, none, x15), (90, none, x12)]) (K' := [(75, some 26, fun _ => x16)]) zco_169 rfl rfl rfl rfl rfl rfl rfl rfl ?_
    refine g_if_eq (pc' := 15) hc rfl rfl (fun hx => ?_) (fun hx => ?_)
    · replace h := zwp_t h hx
      replace h := zwp_r h
      exact h (some (.int x1)) rfl (some (.int x2)) rfl z3 hz3
    · replace h := zwp_f h hx
      refine g_iconst (pc' := 16) (v := (0 : Int32)) hc rfl zki_0 rfl ?_
      refine g_istore (pc' := 18) (ls1 := [some (.ref 75), some (.int a1), some (.int x1), some (.int x2), some (.int (0 : Int32))]) hc rfl (zlt rfl) rfl rfl ?_
      refine zjn (G := (fun (g : Int32 × Int32 × Int32 × Int32 × Int32 × Int32 × Int32 × Int32 × Int32 × (Nat → Int32) × Int64) => match g with | (y58, y59, y60, y61, y62, y63, y64, y65, y66, y67, y68) => ∀ z57 : Option Value, znl z57 = true → pm_ev C_X12_operand (d + 1) (pm_call M cost zext d) cost (false, false) 108 0 0 Q 75 [some (.ref 75), some (.int a1), some (.int x1), some (.int x2), z57] [] 0 0 (zS p q I [(75, some 16, fun _ => y58), (75, some 17, fun _ => y59), (75, some 20, fun _ => y61), (75, some 21, fun _ => y64), (75, some 22, fun _ => y62), (75, some 23, fun _ => y60), (75, some 24, fun _ => y65), (75, some 25, fun _ => y63), (75, some 35, fun _ => (I 75 35)), (75, some 38, fun _ => y66), (75, some 39, fun _ => x4), (88, none, (I 88)), (89, none, y67), (90, none, x12)] J [(75, some 26, fun _ => y68)]))) (zwp_bind h) ?_ (fun h => ?_)
      · rintro ⟨y58, y59, y60, y61, y62, y63, y64, y65, y66, y67, y68⟩ h z57 hz57
        refine g_aload_n (pc' := 76)  hc rfl rfl rfl rfl ?_
        refine z_virt (as := []) (a := 75) (r := []) hc rfl rfl rfl rfl sh_75 rfl zco_169 rfl rfl rfl ?_
        refine ok_X12_isGood_75 (zdp hd rfl) (zwp_mono (zwp_bind h) ?_)
        rintro r69 h
        refine z_po (pc' := 79) (st' := [.int r69]) (v := (some (.int r69))) (L' := [(75, some 16, fun _ => y58), (75, some 17, fun _ => y59), (75, some 20, fun _ => y61), (75, some 21, fun _ => y64), (75, some 22, fun _ => y62), (75, some 23, fun _ => y60), (75, some 24, fun _ => y65), (75, some 25, fun _ => y63), (75, some 35, fun _ => (I 75 35)), (75, some 38, fun _ => y66), (75, some 39, fun _ => x4), (88, none, (I 88)), (89, none, y67), (90, none, x12)]) (K' := [(75, some 26, fun _ => y68)]) zco_169 rfl rfl rfl rfl rfl rfl rfl rfl ?_
        refine zjn (G := (fun (j70 : Int32) => pm_ev C_X12_operand (d + 1) (pm_call M cost zext d) cost (false, false) 108 0 0 Q 96 [some (.ref 75), some (.int a1), some (.int x1), some (.int x2), z57] [.int j70] 0 0 (zS p q I [(75, some 16, fun _ => y58), (75, some 17, fun _ => y59), (75, some 20, fun _ => y61), (75, some 21, fun _ => y64), (75, some 22, fun _ => y62), (75, some 23, fun _ => y60), (75, some 24, fun _ => y65), (75, some 25, fun _ => y63), (75, some 35, fun _ => (I 75 35)), (75, some 38, fun _ => y66), (75, some 39, fun _ => x4), (88, none, (I 88)), (89, none, y67), (90, none, x12)] J [(75, some 26, fun _ => y68)]))) (zwp_bind h) ?_ (fun h => ?_)
        · rintro j70 h
          refine g_istore_n (pc' := 97) (ls1 := [some (.ref 75), some (.int a1), some (.int x1), some (.int j70), z57]) hc rfl (zlt rfl) rfl rfl ?_
          refine g_iload_n (pc' := 98)  hc rfl rfl rfl ?_
          refine g_if_eq (pc' := 101) hc rfl rfl (fun hx => ?_) (fun hx => ?_)
          · replace h := zwp_t h hx
            refine g_goto hc rfl ?_
            replace h := zwp_l h
            exact h z57 hz57
          · replace h := zwp_f h hx
            refine g_aload_n (pc' := 102)  hc rfl rfl rfl rfl ?_
            refine g_bipush (pc' := 104) (v := (14 : Int32)) hc rfl zkb_14 rfl ?_
            refine z_virt (as := [.int (14 : Int32)]) (a := 75) (r := []) hc rfl rfl rfl rfl sh_75 rfl zco_178 rfl rfl rfl ?_
            refine ok_X12_waitsFor_75 (zdp hd rfl) (zwp_mono (zwp_bind h) ?_)
            rintro ⟨o71, o72⟩ h
            refine z_po (pc' := 107) (st' := []) (v := none) (L' := [(75, some 16, fun _ => y58), (75, some 17, fun _ => y59), (75, some 20, fun _ => y61), (75, some 21, fun _ => y64), (75, some 22, fun _ => y62), (75, some 23, fun _ => y60), (75, some 24, fun _ => y65), (75, some 25, fun _ => y63), (75, some 35, fun _ => (I 75 35)), (75, some 38, fun _ => o71), (75, some 39, fun _ => x4), (88, none, (I 88)), (89, none, o72), (90, none, x12)]) (K' := [(75, some 26, fun _ => y68)]) zco_178 rfl rfl rfl rfl rfl rfl rfl rfl ?_
            refine g_aload_n (pc' := 108)  hc rfl rfl rfl rfl ?_
            refine z_virt (as := []) (a := 75) (r := []) hc rfl rfl rfl rfl sh_75 rfl zco_164 rfl rfl rfl ?_
            refine ok_X12_goes_75 (zdp hd rfl) (zwp_mono (zwp_bind h) ?_)
            rintro ⟨o73, o74, o75, o76, o77, o78, o79⟩ h
            refine z_po (pc' := 111) (st' := []) (v := none) (L' := [(75, some 16, fun _ => y58), (75, some 17, fun _ => y59), (75, some 20, fun _ => o74), (75, some 21, fun _ => o77), (75, some 22, fun _ => o75), (75, some 23, fun _ => o73), (75, some 24, fun _ => o78), (75, some 25, fun _ => o76), (75, some 35, fun _ => (I 75 35)), (75, some 38, fun _ => o71), (75, some 39, fun _ => x4), (88, none, (I 88)), (89, none, o72), (90, none, x12)]) (K' := [(75, some 26, fun _ => o79)]) zco_164 rfl rfl rfl rfl rfl rfl rfl rfl ?_
            refine g_aload_n (pc' := 112)  hc rfl rfl rfl rfl ?_
            refine z_virt (as := []) (a := 75) (r := []) hc rfl rfl rfl rfl sh_75 rfl zco_180 rfl rfl rfl ?_
            refine ok_X12_deeper_75 (zdp hd rfl) (zwp_mono (zwp_bind h) ?_)
            rintro ⟨o80, o81, o82, o83⟩ h
            refine z_po (pc' := 115) (st' := []) (v := none) (L' := [(75, some 16, fun _ => o81), (75, some 17, fun _ => o82), (75, some 20, fun _ => o74), (75, some 21, fun _ => o77), (75, some 22, fun _ => o75), (75, some 23, fun _ => o73), (75, some 24, fun _ => o78), (75, some 25, fun _ => o76), (75, some 35, fun _ => (I 75 35)), (75, some 38, fun _ => o71), (75, some 39, fun _ => o80), (88, none, (I 88)), (89, none, o72), (90, none, o83)]) (K' := [(75, some 26, fun _ => o79)]) zco_180 rfl rfl rfl rfl rfl rfl rfl rfl ?_
            refine g_iconst (pc' := 116) (v := (1 : Int32)) hc rfl zki_1 rfl ?_
            refine g_istore_n (pc' := 117) (ls1 := [some (.ref 75), some (.int a1), some (.int (1 : Int32)), some (.int j70), z57]) hc rfl (zlt rfl) rfl rfl ?_
            refine g_goto hc rfl ?_
            replace h := zwp_l h
            exact h z57 hz57
        refine g_if_eq (pc' := 82) hc rfl rfl (fun hx => ?_) (fun hx => ?_)
        · replace h := zwp_t h hx
          refine g_iconst (pc' := 96) (v := (0 : Int32)) hc rfl zki_0 rfl ?_
          replace h := zws h
          exact h
        · replace h := zwp_f h hx
          refine g_aload_n (pc' := 83)  hc rfl rfl rfl rfl ?_
          refine g_bipush (pc' := 85) (v := (40 : Int32)) hc rfl zkb_40 rfl ?_
          refine z_virt (as := [.int (40 : Int32)]) (a := 75) (r := []) hc rfl rfl rfl rfl sh_75 rfl zco_170 rfl rfl rfl ?_
          refine ok_X12_isSign_75 (zdp hd rfl) (zwp_mono (zwp_bind h) ?_)
          rintro r84 h
          refine z_po (pc' := 88) (st' := [.int r84]) (v := (some (.int r84))) (L' := [(75, some 16, fun _ => y58), (75, some 17, fun _ => y59), (75, some 20, fun _ => y61), (75, some 21, fun _ => y64), (75, some 22, fun _ => y62), (75, some 23, fun _ => y60), (75, some 24, fun _ => y65), (75, some 25, fun _ => y63), (75, some 35, fun _ => (I 75 35)), (75, some 38, fun _ => y66), (75, some 39, fun _ => x4), (88, none, (I 88)), (89, none, y67), (90, none, x12)]) (K' := [(75, some 26, fun _ => y68)]) zco_170 rfl rfl rfl rfl rfl rfl rfl rfl ?_
          refine g_if_eq (pc' := 91) hc rfl rfl (fun hx => ?_) (fun hx => ?_)
          · replace h := zwp_t h hx
            refine g_iconst (pc' := 96) (v := (0 : Int32)) hc rfl zki_0 rfl ?_
            replace h := zws h
            exact h
          · replace h := zwp_f h hx
            refine g_iconst (pc' := 92) (v := (1 : Int32)) hc rfl zki_1 rfl ?_
            refine g_goto hc rfl ?_
            replace h := zws h
            exact h
      refine zitr_ev (G := (fun (g : Int32 × Int32 × Int32 × Int32 × Int32 × Int32 × Int32 × Int32 × Int32 × Int32 × (Nat → Int32) × Int64) => match g with | (x45, x46, x47, x48, x49, x50, x51, x52, x53, x54, x55, x56) => pm_ev C_X12_operand (d + 1) (pm_call M cost zext d) cost (false, false) 108 0 0 Q 18 [some (.ref 75), some (.int a1), some (.int x1), some (.int x2), some (.int x45)] [] 0 0 (zS p q I [(75, some 16, fun _ => x46), (75, some 17, fun _ => x47), (75, some 20, fun _ => x49), (75, some 21, fun _ => x52), (75, some 22, fun _ => x50), (75, some 23, fun _ => x48), (75, some 24, fun _ => x53), (75, some 25, fun _ => x51), (75, some 35, fun _ => (I 75 35)), (75, some 38, fun _ => x54), (75, some 39, fun _ => x4), (88, none, (I 88)), (89, none, x55), (90, none, x12)] J [(75, some 26, fun _ => x56)]))) ?_ zFU ((0 : Int32), x5, x6, x7, x8, x9, x10, x11, x13, x14, x15, x16) h
      rintro ⟨x45, x46, x47, x48, x49, x50, x51, x52, x53, x54, x55, x56⟩ h
      refine g_aload_n (pc' := 19)  hc rfl rfl rfl rfl ?_
      refine z_virt (as := []) (a := 75) (r := []) hc rfl rfl rfl rfl sh_75 rfl zco_169 rfl rfl rfl ?_
      refine ok_X12_isGood_75 (zdp hd rfl) (zwp_mono (zwp_bind h) ?_)
      rintro r85 h
      refine z_po (pc' := 22) (st' := [.int r85]) (v := (some (.int r85))) (L' := [(75, some 16, fun _ => x46), (75, some 17, fun _ => x47), (75, some 20, fun _ => x49), (75, some 21, fun _ => x52), (75, some 22, fun _ => x50), (75, some 23, fun _ => x48), (75, some 24, fun _ => x53), (75, some 25, fun _ => x51), (75, some 35, fun _ => (I 75 35)), (75, some 38, fun _ => x54), (75, some 39, fun _ => x4), (88, none, (I 88)), (89, none, x55), (90, none, x12)]) (K' := [(75, some 26, fun _ => x56)]) zco_169 rfl rfl rfl rfl rfl rfl rfl rfl ?_
      refine g_if_eq (pc' := 25) hc rfl rfl (fun hx => ?_) (fun hx => ?_)
      · replace h := zwp_t h hx
        replace h := zwp_r h
        exact h (some (.int x45)) rfl
      · replace h := zwp_f h hx
        refine g_iload_n (pc' := 26)  hc rfl rfl rfl ?_
        refine g_if_eq (pc' := 29) hc rfl rfl (fun hx => ?_) (fun hx => ?_)
        · replace h := zwp_t h hx
          replace h := zwp_r h
          exact h (some (.int x45)) rfl
        · replace h := zwp_f h hx
          refine g_aload_n (pc' := 30)  hc rfl rfl rfl rfl ?_
          refine z_virt (as := []) (a := 75) (r := []) hc rfl rfl rfl rfl sh_75 rfl zco_167 rfl rfl rfl ?_
          refine ok_X12_knownWord_75 (zdp hd rfl) (zwp_mono (zwp_bind h) ?_)
          rintro r86 h
          refine z_po (pc' := 33) (st' := [.int r86]) (v := (some (.int r86))) (L' := [(75, some 16, fun _ => x46), (75, some 17, fun _ => x47), (75, some 20, fun _ => x49), (75, some 21, fun _ => x52), (75, some 22, fun _ => x50), (75, some 23, fun _ => x48), (75, some 24, fun _ => x53), (75, some 25, fun _ => x51), (75, some 35, fun _ => (I 75 35)), (75, some 38, fun _ => x54), (75, some 39, fun _ => x4), (88, none, (I 88)), (89, none, x55), (90, none, x12)]) (K' := [(75, some 26, fun _ => x56)]) zco_167 rfl rfl rfl rfl rfl rfl rfl rfl ?_
          refine g_bipush (pc' := 35) (v := (15 : Int32)) hc rfl zkb_15 rfl ?_
          refine g_icmp_ne (pc' := 38) hc rfl rfl (fun hx => ?_) (fun hx => ?_)
          · replace h := zwp_f h hx
            replace h := zwp_r h
            exact h (some (.int x45)) rfl
          · replace h := zwp_t h hx
            refine g_iload (pc' := 40)  hc rfl rfl rfl ?_
            refine g_bipush (pc' := 42) (v := (6 : Int32)) hc rfl zkb_6 rfl ?_
            refine zjn (G := (fun (g : Int32 × Int32) => match g with | (j87, j88) => pm_ev C_X12_operand (d + 1) (pm_call M cost zext d) cost (false, false) 108 0 0 Q 50 [some (.ref 75), some (.int a1), some (.int x1), some (.int x2), some (.int x45)] [] 0 0 (zS p q I [(75, some 16, fun _ => j87), (75, some 17, fun _ => j88), (75, some 20, fun _ => x49), (75, some 21, fun _ => x52), (75, some 22, fun _ => x50), (75, some 23, fun _ => x48), (75, some 24, fun _ => x53), (75, some 25, fun _ => x51), (75, some 35, fun _ => (I 75 35)), (75, some 38, fun _ => x54), (75, some 39, fun _ => x4), (88, none, (I 88)), (89, none, x55), (90, none, x12)] J [(75, some 26, fun _ => x56)]))) (zwp_bind h) ?_ (fun h => ?_)
            · rintro ⟨j87, j88⟩ h
              refine g_iinc (pc' := 53) (ls1 := [some (.ref 75), some (.int a1), some (.int x1), some (.int x2), some (.int (x45 + (1 : Int32)))]) hc rfl rfl zki_1 (zlt rfl) rfl rfl ?_
              refine g_aload_n (pc' := 54)  hc rfl rfl rfl rfl ?_
              refine z_virt (as := []) (a := 75) (r := []) hc rfl rfl rfl rfl sh_75 rfl zco_169 rfl rfl rfl ?_
              refine ok_X12_isGood_75 (zdp hd rfl) (zwp_mono (zwp_bind h) ?_)
              rintro r89 h
              refine z_po (pc' := 57) (st' := [.int r89]) (v := (some (.int r89))) (L' := [(75, some 16, fun _ => j87), (75, some 17, fun _ => j88), (75, some 20, fun _ => x49), (75, some 21, fun _ => x52), (75, some 22, fun _ => x50), (75, some 23, fun _ => x48), (75, some 24, fun _ => x53), (75, some 25, fun _ => x51), (75, some 35, fun _ => (I 75 35)), (75, some 38, fun _ => x54), (75, some 39, fun _ => x4), (88, none, (I 88)), (89, none, x55), (90, none, x12)]) (K' := [(75, some 26, fun _ => x56)]) zco_169 rfl rfl rfl rfl rfl rfl rfl rfl ?_
              refine g_if_ne (pc' := 60) hc rfl rfl (fun hx => ?_) (fun hx => ?_)
              · replace h := zwp_f h hx
                refine g_aload_n (pc' := 64)  hc rfl rfl rfl rfl ?_
                refine g_iconst (pc' := 65) (v := (3 : Int32)) hc rfl zki_3 rfl ?_
                refine z_virt (as := [.int (3 : Int32)]) (a := 75) (r := []) hc rfl rfl rfl rfl sh_75 rfl zco_178 rfl rfl rfl ?_
                refine ok_X12_waitsFor_75 (zdp hd rfl) (zwp_mono (zwp_bind h) ?_)
                rintro ⟨o90, o91⟩ h
                refine z_po (pc' := 68) (st' := []) (v := none) (L' := [(75, some 16, fun _ => j87), (75, some 17, fun _ => j88), (75, some 20, fun _ => x49), (75, some 21, fun _ => x52), (75, some 22, fun _ => x50), (75, some 23, fun _ => x48), (75, some 24, fun _ => x53), (75, some 25, fun _ => x51), (75, some 35, fun _ => (I 75 35)), (75, some 38, fun _ => o90), (75, some 39, fun _ => x4), (88, none, (I 88)), (89, none, o91), (90, none, x12)]) (K' := [(75, some 26, fun _ => x56)]) zco_178 rfl rfl rfl rfl rfl rfl rfl rfl ?_
                refine g_aload_n (pc' := 69)  hc rfl rfl rfl rfl ?_
                refine z_virt (as := []) (a := 75) (r := []) hc rfl rfl rfl rfl sh_75 rfl zco_164 rfl rfl rfl ?_
                refine ok_X12_goes_75 (zdp hd rfl) (zwp_mono (zwp_bind h) ?_)
                rintro ⟨o92, o93, o94, o95, o96, o97, o98⟩ h
                refine z_po (pc' := 72) (st' := []) (v := none) (L' := [(75, some 16, fun _ => j87), (75, some 17, fun _ => j88), (75, some 20, fun _ => o93), (75, some 21, fun _ => o96), (75, some 22, fun _ => o94), (75, some 23, fun _ => o92), (75, some 24, fun _ => o97), (75, some 25, fun _ => o95), (75, some 35, fun _ => (I 75 35)), (75, some 38, fun _ => o90), (75, some 39, fun _ => x4), (88, none, (I 88)), (89, none, o91), (90, none, x12)]) (K' := [(75, some 26, fun _ => o98)]) zco_164 rfl rfl rfl rfl rfl rfl rfl rfl ?_
                refine g_goto hc rfl ?_
                replace h := zwp_l h
                exact h
              · replace h := zwp_t h hx
                refine g_goto hc rfl ?_
                replace h := zwp_l h
                exact h
            refine g_icmp_ne (pc' := 45) hc rfl rfl (fun hx => ?_) (fun hx => ?_)
            · replace h := zwp_f h hx
              replace h := zws h
              exact h
            · replace h := zwp_t h hx
              refine g_aload_n (pc' := 46)  hc rfl rfl rfl rfl ?_
              refine g_iconst (pc' := 47) (v := (2 : Int32)) hc rfl zki_2 rfl ?_
              refine z_virt (as := [.int (2 : Int32)]) (a := 75) (r := []) hc rfl rfl rfl rfl sh_75 rfl zco_168 rfl rfl rfl ?_
              refine ok_X12_wrong_75 (zdp hd rfl) (zwp_mono (zwp_bind h) ?_)
              rintro ⟨o99, o100⟩ h
              refine z_po (pc' := 50) (st' := []) (v := none) (L' := [(75, some 16, fun _ => o99), (75, some 17, fun _ => o100), (75, some 20, fun _ => x49), (75, some 21, fun _ => x52), (75, some 22, fun _ => x50), (75, some 23, fun _ => x48), (75, some 24, fun _ => x53), (75, some 25, fun _ => x51), (75, some 35, fun _ => (I 75 35)), (75, some 38, fun _ => x54), (75, some 39, fun _ => x4), (88, none, (I 88)), (89, none, x55), (90, none, x12)]) (K' := [(75, some 26, fun _ => x56)]) zco_168 rfl rfl rfl rfl rfl rfl rfl rfl ?_
              replace h := zws h
              exact h
set_option maxRecDepth 4000 in
theorem ok_X12_isOpen {p q : Nat} {I : pI} {J : pJ} {a0 : Int32} {Q : pQ} {d : Nat} (hd : 1 ≤ d) (h : zwp (f_X12_isOpen a0) (fun r => Q (.inl (some (.int r))) (zS p q I [] J []))) : pm_call M cost zext d 175 [.int a0] (pm_st 108 (shp p q) I J) Q := by
  obtain ⟨d, rfl⟩ := zd1 hd rfl
  have hc := pm_call_m (M := M) (cost := cost) zext_m d
  refine z_in (L := []) (K := []) (ls := [some (.int a0)]) zmt_175 zco_175 rfl rfl zid_n zid_n ?_
  delta f_X12_isOpen at h
  refine g_iload_n (pc' := 1)  hc rfl rfl rfl ?_
  refine g_bipush (pc' := 3) (v := (14 : Int32)) hc rfl zkb_14 rfl ?_
  refine g_icmp_lt (pc' := 6) hc rfl rfl (fun hx => ?_) (fun hx => ?_)
  · replace h := zwp_t h hx
    refine g_iconst (pc' := 11) (v := (0 : Int32)) hc rfl zki_0 rfl ?_
    replace h := zws h
    exact g_ireturn hc rfl rfl rfl (fun _ => ⟨rfl, rfl⟩) h
  · replace h := zwp_f h hx
    refine g_iconst (pc' := 7) (v := (1 : Int32)) hc rfl zki_1 rfl ?_
    refine g_goto hc rfl ?_
    replace h := zws h
    exact g_ireturn hc rfl rfl rfl (fun _ => ⟨rfl, rfl⟩) h
set_option maxRecDepth 4000 in
theorem ok_X12_strength {p q : Nat} {I : pI} {J : pJ} {a0 : Int32} {Q : pQ} {d : Nat} (hd : 1 ≤ d) (h : zwp (f_X12_strength a0) (fun r => Q (.inl (some (.int r))) (zS p q I [] J []))) : pm_call M cost zext d 176 [.int a0] (pm_st 108 (shp p q) I J) Q := by
  obtain ⟨d, rfl⟩ := zd1 hd rfl
  have hc := pm_call_m (M := M) (cost := cost) zext_m d
  refine z_in (L := []) (K := []) (ls := [some (.int a0)]) zmt_176 zco_176 rfl rfl zid_n zid_n ?_
  delta f_X12_strength at h
  refine g_iload_n (pc' := 1)  hc rfl rfl rfl ?_
  refine g_iconst (pc' := 2) (v := (5 : Int32)) hc rfl zki_5 rfl ?_
  refine g_icmp_ne (pc' := 5) hc rfl rfl (fun hx => ?_) (fun hx => ?_)
  · replace h := zwp_f h hx
    refine g_iload_n (pc' := 10)  hc rfl rfl rfl ?_
    refine g_iconst (pc' := 11) (v := (4 : Int32)) hc rfl zki_4 rfl ?_
    refine g_icmp_ne (pc' := 14) hc rfl rfl (fun hx => ?_) (fun hx => ?_)
    · replace h := zwp_f h hx
      refine g_iload_n (pc' := 19)  hc rfl rfl rfl ?_
      refine g_iconst (pc' := 20) (v := (3 : Int32)) hc rfl zki_3 rfl ?_
      refine g_icmp_ne (pc' := 23) hc rfl rfl (fun hx => ?_) (fun hx => ?_)
      · replace h := zwp_f h hx
        refine g_iload_n (pc' := 28)  hc rfl rfl rfl ?_
        refine g_bipush (pc' := 30) (v := (6 : Int32)) hc rfl zkb_6 rfl ?_
        refine g_icmp_eq (pc' := 33) hc rfl rfl (fun hx => ?_) (fun hx => ?_)
        · replace h := zwp_t h hx
          refine g_iconst (pc' := 40) (v := (4 : Int32)) hc rfl zki_4 rfl ?_
          refine g_goto hc rfl ?_
          replace h := zws h
          exact g_ireturn hc rfl rfl rfl (fun _ => ⟨rfl, rfl⟩) h
        · replace h := zwp_f h hx
          refine g_iload_n (pc' := 34)  hc rfl rfl rfl ?_
          refine g_bipush (pc' := 36) (v := (7 : Int32)) hc rfl zkb_7 rfl ?_
          refine g_icmp_ne (pc' := 39) hc rfl rfl (fun hx => ?_) (fun hx => ?_)
          · replace h := zwp_f h hx
            refine g_iload_n (pc' := 44)  hc rfl rfl rfl ?_
            refine g_bipush (pc' := 46) (v := (8 : Int32)) hc rfl zkb_8 rfl ?_
            refine g_icmp_eq (pc' := 49) hc rfl rfl (fun hx => ?_) (fun hx => ?_)
            · replace h := zwp_t h hx
              refine g_iconst (pc' := 56) (v := (5 : Int32)) hc rfl zki_5 rfl ?_
              refine g_goto hc rfl ?_
              replace h := zws h
              exact g_ireturn hc rfl rfl rfl (fun _ => ⟨rfl, rfl⟩) h
            · replace h := zwp_f h hx
              refine g_iload_n (pc' := 50)  hc rfl rfl rfl ?_
              refine g_bipush (pc' := 52) (v := (9 : Int32)) hc rfl zkb_9 rfl ?_
              refine g_icmp_ne (pc' := 55) hc rfl rfl (fun hx => ?_) (fun hx => ?_)
              · replace h := zwp_f h hx
                refine g_bipush (pc' := 61) (v := (6 : Int32)) hc rfl zkb_6 rfl ?_
                replace h := zws h
                exact g_ireturn hc rfl rfl rfl (fun _ => ⟨rfl, rfl⟩) h
              · replace h := zwp_t h hx
                refine g_iconst (pc' := 56) (v := (5 : Int32)) hc rfl zki_5 rfl ?_
                refine g_goto hc rfl ?_
                replace h := zws h
                exact g_ireturn hc rfl rfl rfl (fun _ => ⟨rfl, rfl⟩) h
          · replace h := zwp_t h hx
            refine g_iconst (pc' := 40) (v := (4 : Int32)) hc rfl zki_4 rfl ?_
            refine g_goto hc rfl ?_
            replace h := zws h
            exact g_ireturn hc rfl rfl rfl (fun _ => ⟨rfl, rfl⟩) h
      · replace h := zwp_t h hx
        refine g_iconst (pc' := 24) (v := (3 : Int32)) hc rfl zki_3 rfl ?_
        refine g_goto hc rfl ?_
        replace h := zws h
        exact g_ireturn hc rfl rfl rfl (fun _ => ⟨rfl, rfl⟩) h
    · replace h := zwp_t h hx
      refine g_iconst (pc' := 15) (v := (2 : Int32)) hc rfl zki_2 rfl ?_
      refine g_goto hc rfl ?_
      replace h := zws h
      exact g_ireturn hc rfl rfl rfl (fun _ => ⟨rfl, rfl⟩) h
  · replace h := zwp_t h hx
    refine g_iconst (pc' := 6) (v := (1 : Int32)) hc rfl zki_1 rfl ?_
    refine g_goto hc rfl ?_
    replace h := zws h
    exact g_ireturn hc rfl rfl rfl (fun _ => ⟨rfl, rfl⟩) h
set_option maxRecDepth 4000 in
theorem ok_X12_drops_75 {p q : Nat} {I : pI} {J : pJ} {a1 : Int32} {Q : pQ} {d : Nat} (hd : 2 ≤ d) (h : zwp (f_X12_drops a1 (I 88) (I 75 35) (I 75 38) (I 89)) (fun w => match w with | (o0, o1, o2) => Q (.inl none) (zS p q I [(75, some 35, fun _ => o1), (75, some 38, fun _ => o2), (88, none, o0)] J []))) : pm_call M cost zext d 177 [.ref 75, .int a1] (pm_st 108 (shp p q) I J) Q := by
  obtain ⟨d, rfl⟩ := zd1 hd rfl
  have hc := pm_call_m (M := M) (cost := cost) zext_m d
  refine z_in (L := [(75, some 35, fun _ => (I 75 35)), (75, some 38, fun _ => (I 75 38)), (88, none, (I 88))]) (K := []) (ls := [some (.ref 75), some (.int a1)]) zmt_177 zco_177 rfl rfl (zid_s (zid_s (zid_a zid_n))) zid_n ?_
  delta f_X12_drops at h
  refine zjn (G := (fun (g : (Nat → Int32) × Int32 × Int32) => match g with | (y4, y5, y6) => pm_ev C_X12_drops (d + 1) (pm_call M cost zext d) cost (false, false) 108 0 0 Q 68 [some (.ref 75), some (.int a1)] [] 0 0 (zS p q I [(75, some 35, fun _ => y5), (75, some 38, fun _ => y6), (88, none, y4)] J []))) (zwp_bind h) ?_ (fun h => ?_)
  · rintro ⟨y4, y5, y6⟩ h
    replace h := zws h
    exact g_return hc rfl rfl (fun _ => ⟨rfl, rfl⟩) h
  refine zitr_ev (G := (fun (g : (Nat → Int32) × Int32 × Int32) => match g with | (x1, x2, x3) => pm_ev C_X12_drops (d + 1) (pm_call M cost zext d) cost (false, false) 108 0 0 Q 0 [some (.ref 75), some (.int a1)] [] 0 0 (zS p q I [(75, some 35, fun _ => x2), (75, some 38, fun _ => x3), (88, none, x1)] J []))) ?_ zFU ((I 88), (I 75 35), (I 75 38)) h
  rintro ⟨x1, x2, x3⟩ h
  refine g_aload_n (pc' := 1)  hc rfl rfl rfl rfl ?_
  refine z_getI (pc' := 4) (v := x3) hc rfl rfl rfl sh_75 rfl rfl rfl ?_
  refine g_if_le (pc' := 7) hc rfl rfl (fun hx => ?_) (fun hx => ?_)
  · replace h := zwp_t h hx
    replace h := zwp_r h
    exact h
  · replace h := zwp_f h hx
    refine g_aload_n (pc' := 8)  hc rfl rfl rfl rfl ?_
    refine z_getR (pc' := 11)  hc rfl rfl rfl sh_75 rfl rfl ?_
    refine g_aload_n (pc' := 12)  hc rfl rfl rfl rfl ?_
    refine z_getI (pc' := 15) (v := x3) hc rfl rfl rfl sh_75 rfl rfl rfl ?_
    refine g_iconst (pc' := 16) (v := (1 : Int32)) hc rfl zki_1 rfl ?_
    refine g_isub (pc' := 17)  hc rfl rfl ?_
    have hb := (zwp_bnd h).1
    replace h := (zwp_bnd h).2
    refine z_iaload (pc' := 18) (v := (((I 89)) (x3 - (1 : Int32)).toNatClampNeg)) hc rfl rfl sh_89 hb rfl rfl ?_
    refine z_stat (as := [.int (((I 89)) (x3 - (1 : Int32)).toNatClampNeg)]) (r := []) hc rfl rfl rfl rfl zco_175 rfl rfl rfl ?_
    refine ok_X12_isOpen (zdp hd rfl) (zwp_mono (zwp_bind h) ?_)
    rintro r7 h
    refine z_po (pc' := 21) (st' := [.int r7]) (v := (some (.int r7))) (L' := [(75, some 35, fun _ => x2), (75, some 38, fun _ => x3), (88, none, x1)]) (K' := []) zco_175 rfl rfl rfl rfl rfl rfl rfl rfl ?_
    refine g_if_ne (pc' := 24) hc rfl rfl (fun hx => ?_) (fun hx => ?_)
    · replace h := zwp_f h hx
      replace h := zwp_r h
      exact h
    · replace h := zwp_t h hx
      refine g_aload_n (pc' := 25)  hc rfl rfl rfl rfl ?_
      refine z_getR (pc' := 28)  hc rfl rfl rfl sh_75 rfl rfl ?_
      refine g_aload_n (pc' := 29)  hc rfl rfl rfl rfl ?_
      refine z_getI (pc' := 32) (v := x3) hc rfl rfl rfl sh_75 rfl rfl rfl ?_
      refine g_iconst (pc' := 33) (v := (1 : Int32)) hc rfl zki_1 rfl ?_
      refine g_isub (pc' := 34)  hc rfl rfl ?_
      have hb := (zwp_bnd h).1
      replace h := (zwp_bnd h).2
      refine z_iaload (pc' := 35) (v := (((I 89)) (x3 - (1 : Int32)).toNatClampNeg)) hc rfl rfl sh_89 hb rfl rfl ?_
      refine z_stat (as := [.int (((I 89)) (x3 - (1 : Int32)).toNatClampNeg)]) (r := []) hc rfl rfl rfl rfl zco_176 rfl rfl rfl ?_
      refine ok_X12_strength (zdp hd rfl) (zwp_mono (zwp_bind h) ?_)
      rintro r8 h
      refine z_po (pc' := 38) (st' := [.int r8]) (v := (some (.int r8))) (L' := [(75, some 35, fun _ => x2), (75, some 38, fun _ => x3), (88, none, x1)]) (K' := []) zco_176 rfl rfl rfl rfl rfl rfl rfl rfl ?_
      refine g_iload_n (pc' := 39)  hc rfl rfl rfl ?_
      refine g_icmp_lt (pc' := 42) hc rfl rfl (fun hx => ?_) (fun hx => ?_)
      · replace h := zwp_t h hx
        replace h := zwp_r h
        exact h
      · replace h := zwp_f h hx
        refine g_aload_n (pc' := 43)  hc rfl rfl rfl rfl ?_
        refine g_dup (pc' := 44)  hc rfl rfl rfl ?_
        refine z_getI (pc' := 47) (v := x3) hc rfl rfl rfl sh_75 rfl rfl rfl ?_
        refine g_iconst (pc' := 48) (v := (1 : Int32)) hc rfl zki_1 rfl ?_
        refine g_isub (pc' := 49)  hc rfl rfl ?_
        refine z_putI (pc' := 52) (L' := [(75, some 35, fun _ => x2), (75, some 38, fun _ => (x3 - (1 : Int32))), (88, none, x1)]) hc rfl rfl rfl sh_75 rfl zft_12_38 rfl (fun h => Bool.noConfusion h) rfl rfl rfl ?_
        refine g_aload_n (pc' := 53)  hc rfl rfl rfl rfl ?_
        refine g_aload_n (pc' := 54)  hc rfl rfl rfl rfl ?_
        refine z_getR (pc' := 57)  hc rfl rfl rfl sh_75 rfl rfl ?_
        refine g_aload_n (pc' := 58)  hc rfl rfl rfl rfl ?_
        refine z_getI (pc' := 61) (v := (x3 - (1 : Int32))) hc rfl rfl rfl sh_75 rfl rfl rfl ?_
        have hb := (zwp_bnd h).1
        replace h := (zwp_bnd h).2
        refine z_iaload (pc' := 62) (v := (((I 89)) (x3 - (1 : Int32)).toNatClampNeg)) hc rfl rfl sh_89 hb rfl rfl ?_
        refine z_virt (as := [.int (((I 89)) (x3 - (1 : Int32)).toNatClampNeg)]) (a := 75) (r := []) hc rfl rfl rfl rfl sh_75 rfl zco_174 rfl rfl rfl ?_
        refine ok_X12_puts_75 (zdp hd rfl) (zwp_mono (zwp_bind h) ?_)
        rintro ⟨o9, o10⟩ h
        refine z_po (pc' := 65) (st' := []) (v := none) (L' := [(75, some 35, fun _ => o10), (75, some 38, fun _ => (x3 - (1 : Int32))), (88, none, o9)]) (K' := []) zco_174 rfl rfl rfl rfl rfl rfl rfl rfl ?_
        refine g_goto hc rfl ?_
        replace h := zwp_l h
        exact h
