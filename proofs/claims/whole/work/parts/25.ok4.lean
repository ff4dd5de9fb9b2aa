set_option maxRecDepth 4000 in
theorem ok_J13_bitCount_95d88 {p q : Nat} {I : pI} {J : pJ} {a0 : Int64} {Q : pQ} {d : Nat} (hd : 1 ≤ d) (h : zwp (f_J13_bitCount_95d88 a0) (fun r => Q (.inl (some (.int r))) (zS p q I [] J []))) : pm_call M cost zext d 266 [.long a0] (pm_st 108 (shp p q) I J) Q := by
  obtain ⟨d, rfl⟩ := zd1 hd rfl
  have hc := pm_call_m (M := M) (cost := cost) zext_m d
  refine z_in (L := []) (K := []) (ls := [some (.long a0), none]) zmt_266 zco_266 rfl rfl zid_n zid_n ?_
  delta f_J13_bitCount_95d88 at h
  refine g_lload_n (pc' := 1)  hc rfl rfl rfl ?_
  refine g_lload_n (pc' := 2)  hc rfl rfl rfl ?_
  refine g_iconst (pc' := 3) (v := (1 : Int32)) hc rfl zki_1 rfl ?_
  refine g_lushr (pc' := 4)  hc rfl rfl ?_
  refine g_ldc2_w (pc' := 7) (v := (6148914691236517205 : Int64)) hc rfl rfl rfl ?_
  refine g_land (pc' := 8)  hc rfl rfl ?_
  refine g_lsub (pc' := 9)  hc rfl rfl ?_
  refine g_lstore_n (pc' := 10) (ls1 := [some (.long (a0 - (((a0.toUInt64 >>> ((1 : Int32).toInt64.toUInt64 &&& Int64.toUInt64 63)).toInt64) &&& (6148914691236517205 : Int64)))), none]) hc rfl (zlt rfl) rfl rfl ?_
  refine g_lload_n (pc' := 11)  hc rfl rfl rfl ?_
  refine g_ldc2_w (pc' := 14) (v := (3689348814741910323 : Int64)) hc rfl rfl rfl ?_
  refine g_land (pc' := 15)  hc rfl rfl ?_
  refine g_lload_n (pc' := 16)  hc rfl rfl rfl ?_
  refine g_iconst (pc' := 17) (v := (2 : Int32)) hc rfl zki_2 rfl ?_
  refine g_lushr (pc' := 18)  hc rfl rfl ?_
  refine g_ldc2_w (pc' := 21) (v := (3689348814741910323 : Int64)) hc rfl rfl rfl ?_
  refine g_land (pc' := 22)  hc rfl rfl ?_
  refine g_ladd (pc' := 23)  hc rfl rfl ?_
  refine g_lstore_n (pc' := 24) (ls1 := [some (.long (((a0 - (((a0.toUInt64 >>> ((1 : Int32).toInt64.toUInt64 &&& Int64.toUInt64 63)).toInt64) &&& (6148914691236517205 : Int64))) &&& (3689348814741910323 : Int64)) + ((((a0 - (((a0.toUInt64 >>> ((1 : Int32).toInt64.toUInt64 &&& Int64.toUInt64 63)).toInt64) &&& (6148914691236517205 : Int64))).toUInt64 >>> ((2 : Int32).toInt64.toUInt64 &&& Int64.toUInt64 63)).toInt64) &&& (3689348814741910323 : Int64)))), none]) hc rfl (zlt rfl) rfl rfl ?_
  refine g_lload_n (pc' := 25)  hc rfl rfl rfl ?_
  refine g_lload_n (pc' := 26)  hc rfl rfl rfl ?_
  refine g_iconst (pc' := 27) (v := (4 : Int32)) hc rfl zki_4 rfl ?_
  refine g_lushr (pc' := 28)  hc rfl rfl ?_
  refine g_ladd (pc' := 29)  hc rfl rfl ?_
  refine g_ldc2_w (pc' := 32) (v := (1085102592571150095 : Int64)) hc rfl rfl rfl ?_
  refine g_land (pc' := 33)  hc rfl rfl ?_
  refine g_lstore_n (pc' := 34) (ls1 := [some (.long (((((a0 - (((a0.toUInt64 >>> ((1 : Int32).toInt64.toUInt64 &&& Int64.toUInt64 63)).toInt64) &&& (6148914691236517205 : Int64))) &&& (3689348814741910323 : Int64)) + ((((a0 - (((a0.toUInt64 >>> ((1 : Int32).toInt64.toUInt64 &&& Int64.toUInt64 63)).toInt64) &&& (6148914691236517205 : Int64))).toUInt64 >>> ((2 : Int32).toInt64.toUInt64 &&& Int64.toUInt64 63)).toInt64) &&& (3689348814741910323 : Int64))) + (((((a0 - (((a0.toUInt64 >>> ((1 : Int32).toInt64.toUInt64 &&& Int64.toUInt64 63)).toInt64) &&& (6148914691236517205 : Int64))) &&& (3689348814741910323 : Int64)) + ((((a0 - (((a0.toUInt64 >>> ((1 : Int32).toInt64.toUInt64 &&& Int64.toUInt64 63)).toInt64) &&& (6148914691236517205 : Int64))).toUInt64 >>> ((2 : Int32).toInt64.toUInt64 &&& Int64.toUInt64 63)).toInt64) &&& (3689348814741910323 : Int64))).toUInt64 >>> ((4 : Int32).toInt64.toUInt64 &&& Int64.toUInt64 63)).toInt64)) &&& (1085102592571150095 : Int64))), none]) hc rfl (zlt rfl) rfl rfl ?_
  refine g_lload_n (pc' := 35)  hc rfl rfl rfl ?_
  refine g_lload_n (pc' := 36)  hc rfl rfl rfl ?_
  refine g_bipush (pc' := 38) (v := (8 : Int32)) hc rfl zkb_8 rfl ?_
  refine g_lushr (pc' := 39)  hc rfl rfl ?_
  refine g_ladd (pc' := 40)  hc rfl rfl ?_
  refine g_lstore_n (pc' := 41) (ls1 := [some (.long ((((((a0 - (((a0.toUInt64 >>> ((1 : Int32).toInt64.toUInt64 &&& Int64.toUInt64 63)).toInt64) &&& (6148914691236517205 : Int64))) &&& (3689348814741910323 : Int64)) + ((((a0 - (((a0.toUInt64 >>> ((1 : Int32).toInt64.toUInt64 &&& Int64.toUInt64 63)).toInt64) &&& (6148914691236517205 : Int64))).toUInt64 >>> ((2 : Int32).toInt64.toUInt64 &&& Int64.toUInt64 63)).toInt64) &&& (3689348814741910323 : Int64))) + (((((a0 - (((a0.toUInt64 >>> ((1 : Int32).toInt64.toUInt64 &&& Int64.toUInt64 63)).toInt64) &&& (6148914691236517205 : Int64))) &&& (3689348814741910323 : Int64)) + ((((a0 - (((a0.toUInt64 >>> ((1 : Int32).toInt64.toUInt64 &&& Int64.toUInt64 63)).toInt64) &&& (6148914691236517205 : Int64))).toUInt64 >>> ((2 : Int32).toInt64.toUInt64 &&& Int64.toUInt64 63)).toInt64) &&& (3689348814741910323 : Int64))).toUInt64 >>> ((4 : Int32).toInt64.toUInt64 &&& Int64.toUInt64 63)).toInt64)) &&& (1085102592571150095 : Int64)) + (((((((a0 - (((a0.toUInt64 >>> ((1 : Int32).toInt64.toUInt64 &&& Int64.toUInt64 63)).toInt64) &&& (6148914691236517205 : Int64))) &&& (3689348814741910323 : Int64)) + ((((a0 - (((a0.toUInt64 >>> ((1 : Int32).toInt64.toUInt64 &&& Int64.toUInt64 63)).toInt64) &&& (6148914691236517205 : Int64))).toUInt64 >>> ((2 : Int32).toInt64.toUInt64 &&& Int64.toUInt64 63)).toInt64) &&& (3689348814741910323 : Int64))) + (((((a0 - (((a0.toUInt64 >>> ((1 : Int32).toInt64.toUInt64 &&& Int64.toUInt64 63)).toInt64) &&& (6148914691236517205 : Int64))) &&& (3689348814741910323 : Int64)) + ((((a0 - (((a0.toUInt64 >>> ((1 : Int32).toInt64.toUInt64 &&& Int64.toUInt64 63)).toInt64) &&& (6148914691236517205 : Int64))).toUInt64 >>> ((2 : Int32).toInt64.toUInt64 &&& Int64.toUInt64 63)).toInt64) &&& (3689348814741910323 : Int64))).toUInt64 >>> ((4 : Int32).toInt64.toUInt64 &&& Int64.toUInt64 63)).toInt64)) &&& (1085102592571150095 : Int64)).toUInt64 >>> ((8 : Int32).toInt64.toUInt64 &&& Int64.toUInt64 63)).toInt64))), none]) hc rfl (zlt rfl) rfl rfl ?_
  refine g_lload_n (pc' := 42)  hc rfl rfl rfl ?_
  refine g_lload_n (pc' := 43)  hc rfl rfl rfl ?_
  refine g_bipush (pc' := 45) (v := (16 : Int32)) hc rfl zkb_16 rfl ?_
  refine g_lushr (pc' := 46)  hc rfl rfl ?_
  refine g_ladd (pc' := 47)  hc rfl rfl ?_
  refine g_lstore_n (pc' := 48) (ls1 := [some (.long (((((((a0 - (((a0.toUInt64 >>> ((1 : Int32).toInt64.toUInt64 &&& Int64.toUInt64 63)).toInt64) &&& (6148914691236517205 : Int64))) &&& (3689348814741910323 : Int64)) + ((((a0 - (((a0.toUInt64 >>> ((1 : Int32).toInt64.toUInt64 &&& Int64.toUInt64 63)).toInt64) &&& (6148914691236517205 : Int64))).toUInt64 >>> ((2 : Int32).toInt64.toUInt64 &&& Int64.toUInt64 63)).toInt64) &&& (3689348814741910323 : Int64))) + (((((a0 - (((a0.toUInt64 >>> ((1 : Int32).toInt64.toUInt64 &&& Int64.toUInt64 63)).toInt64) &&& (6148914691236517205 : Int64))) &&& (3689348814741910323 : Int64)) + ((((a0 - (((a0.toUInt64 >>> ((1 : Int32).toInt64.toUInt64 &&& Int64.toUInt64 63)).toInt64) &&& (6148914691236517205 : Int64))).toUInt64 >>> ((2 : Int32).toInt64.toUInt64 &&& Int64.toUInt64 63)).toInt64) &&& (3689348814741910323 : Int64))).toUInt64 >>> ((4 : Int32).toInt64.toUInt64 &&& Int64.toUInt64 63)).toInt64)) &&& (1085102592571150095 : Int64)) + (((((((a0 - (((a0.toUInt64 >>> ((1 : Int32).toInt64.toUInt64 &&& Int64.toUInt64 63)).toInt64) &&& (6148914691236517205 : Int64))) &&& (3689348814741910323 : Int64)) + ((((a0 - (((a0.toUInt64 >>> ((1 : Int32).toInt64.toUInt64 &&& Int64.toUInt64 63)).toInt64) &&& (6148914691236517205 : Int64))).toUInt64 >>> ((2 : Int32).toInt64.toUInt64 &&& Int64.toUInt64 63)).toInt64) &&& (3689348814741910323 : Int64))) + (((((a0 - (((a0.toUInt64 >>> ((1 : Int32).toInt64.toUInt64 &&& Int64.toUInt64 63)).toInt64) &&& (6148914691236517205 : Int64))) &&& (3689348814741910323 : Int64)) + ((((a0 - (((a0.toUInt64 >>> ((1 : Int32).toInt64.toUInt64 &&& Int64.toUInt64 63)).toInt64) &&& (6148914691236517205 : Int64))).toUInt64 >>> ((2 : Int32).toInt64.toUInt64 &&& Int64.toUInt64 63)).toInt64) &&& (3689348814741910323 : Int64))).toUInt64 >>> ((4 : Int32).toInt64.toUInt64 &&& Int64.toUInt64 63)).toInt64)) &&& (1085102592571150095 : Int64)).toUInt64 >>> ((8 : Int32).toInt64.toUInt64 &&& Int64.toUInt64 63)).toInt64)) + ((((((((a0 - (((a0.toUInt64 >>> ((1 : Int32).toInt64.toUInt64 &&& Int64.toUInt64 63)).toInt64) &&& (6148914691236517205 : Int64))) &&& (3689348814741910323 : Int64)) + ((((a0 - (((a0.toUInt64 >>> ((1 : Int32).toInt64.toUInt64 &&& Int64.toUInt64 63)).toInt64) &&& (6148914691236517205 : Int64))).toUInt64 >>> ((2 : Int32).toInt64.toUInt64 &&& Int64.toUInt64 63)).toInt64) &&& (3689348814741910323 : Int64))) + (((((a0 - (((a0.toUInt64 >>> ((1 : Int32).toInt64.toUInt64 &&& Int64.toUInt64 63)).toInt64) &&& (6148914691236517205 : Int64))) &&& (3689348814741910323 : Int64)) + ((((a0 - (((a0.toUInt64 >>> ((1 : Int32).toInt64.toUInt64 &&& Int64.toUInt64 63)).toInt64) &&& (6148914691236517205 : Int64))).toUInt64 >>> ((2 : Int32).toInt64.toUInt64 &&& Int64.toUInt64 63)).toInt64) &&& (3689348814741910323 : Int64))).toUInt64 >>> ((4 : Int32).toInt64.toUInt64 &&& Int64.toUInt64 63)).toInt64)) &&& (1085102592571150095 : Int64)) + (((((((a0 - (((a0.toUInt64 >>> ((1 : Int32).toInt64.toUInt64 &&& Int64.toUInt64 63)).toInt64) &&& (6148914691236517205 : Int64))) &&& (3689348814741910323 : Int64)) + ((((a0 - (((a0.toUInt64 >>> ((1 : Int32).toInt64.toUInt64 &&& Int64.toUInt64 63)).toInt64) &&& (6148914691236517205 : Int64))).toUInt64 >>> ((2 : Int32).toInt64.toUInt64 &&& Int64.toUInt64 63)).toInt64) &&& (3689348814741910323 : Int64))) + (((((a0 - (((a0.toUInt64 >>> ((1 : Int32).toInt64.toUInt64 &&& Int64.toUInt64 63)).toInt64) &&& (6148914691236517205 : Int64))) &&& (3689348814741910323 : Int64)) + ((((a0 - (((a0.toUInt64 >>> ((1 : Int32).toInt64.toUInt64 &&& Int64.toUInt64 63)).toInt64) &&& (6148914691236517205 : Int64))).toUInt64 >>> ((2 : Int32).toInt64.toUInt64 &&& Int64.toUInt64 63)).toInt64) &&& (3689348814741910323 : Int64))).toUInt64 >>> ((4 : Int32).toInt64.toUInt64 &&& Int64.toUInt64 63)).toInt64)) &&& (1085102592571150095 : Int64)).toUInt64 >>> ((8 : Int32).toInt64.toUInt64 &&& Int64.toUInt64 63)).toInt64)).toUInt64 >>> ((16 : Int32).toInt64.toUInt64 &&& Int64.toUInt64 63)).toInt64))), none]) hc rfl (zlt rfl) rfl rfl ?_
  refine g_lload_n (pc' := 49)  hc rfl rfl rfl ?_
  refine g_lload_n (pc' := 50)  hc rfl rfl rfl ?_
  refine g_bipush (pc' := 52) (v := (32 : Int32)) hc rfl zkb_32 rfl ?_
  refine g_lushr (pc' := 53)  hc rfl rfl ?_
  refine g_ladd (pc' := 54)  hc rfl rfl ?_
  refine g_lstore_n (pc' := 55) (ls1 := [some (.long ((((((((a0 - (((a0.toUInt64 >>> ((1 : Int32).toInt64.toUInt64 &&& Int64.toUInt64 63)).toInt64) &&& (6148914691236517205 : Int64))) &&& (3689348814741910323 : Int64)) + ((((a0 - (((a0.toUInt64 >>> ((1 : Int32).toInt64.toUInt64 &&& Int64.toUInt64 63)).toInt64) &&& (6148914691236517205 : Int64))).toUInt64 >>> ((2 : Int32).toInt64.toUInt64 &&& Int64.toUInt64 63)).toInt64) &&& (3689348814741910323 : Int64))) + (((((a0 - (((a0.toUInt64 >>> ((1 : Int32).toInt64.toUInt64 &&& Int64.toUInt64 63)).toInt64) &&& (6148914691236517205 : Int64))) &&& (3689348814741910323 : Int64)) + ((((a0 - (((a0.toUInt64 >>> ((1 : Int32).toInt64.toUInt64 &&& Int64.toUInt64 63)).toInt64) &&& (6148914691236517205 : Int64))).toUInt64 >>> ((2 : Int32).toInt64.toUInt64 &&& Int64.toUInt64 63)).toInt64) &&& (3689348814741910323 : Int64))).toUInt64 >>> ((4 : Int32).toInt64.toUInt64 &&& Int64.toUInt64 63)).toInt64)) &&& (1085102592571150095 : Int64)) + (((((((a0 - (((a0.toUInt64 >>> ((1 : Int32).toInt64.toUInt64 &&& Int64.toUInt64 63)).toInt64) &&& (6148914691236517205 : Int64))) &&& (3689348814741910323 : Int64)) + ((((a0 - (((a0.toUInt64 >>> ((1 : Int32).toInt64.toUInt64 &&& Int64.toUInt64 63)).toInt64) &&& (6148914691236517205 : Int64))).toUInt64 >>> ((2 : Int32).toInt64.toUInt64 &&& Int64.toUInt64 63)).toInt64) &&& (3689348814741910323 : Int64))) + (((((a0 - (((a0.toUInt64 >>> ((1 : Int32).toInt64.toUInt64 &&& Int64.toUInt64 63)).toInt64) &&& (6148914691236517205 : Int64))) &&& (3689348814741910323 : Int64)) + ((((a0 - (((a0.toUInt64 >>> ((1 : Int32).toInt64.toUInt64 &&& Int64.toUInt64 63)).toInt64) &&& (6148914691236517205 : Int64))).toUInt64 >>> ((2 : Int32).toInt64.toUInt64 &&& Int64.toUInt64 63)).toInt64) &&& (3689348814741910323 : Int64))).toUInt64 >>> ((4 : Int32).toInt64.toUInt64 &&& Int64.toUInt64 63)).toInt64)) &&& (1085102592571150095 : Int64)).toUInt64 >>> ((8 : Int32).toInt64.toUInt64 &&& Int64.toUInt64 63)).toInt64)) + ((((((((a0 - (((a0.toUInt64 >>> ((1 : Int32).toInt64.toUInt64 &&& Int64.toUInt64 63)).toInt64) &&& (6148914691236517205 : Int64))) &&& (3689348814741910323 : Int64)) + ((((a0 - (((a0.toUInt64 >>> ((1 : Int32).toInt64.toUInt64 &&& Int64.toUInt64 63)).toInt64) &&& (6148914691236517205 : Int64))).toUInt64 >>> ((2 : Int32).toInt64.toUInt64 &&& Int64.toUInt64 63)).toInt64) &&& (3689348814741910323 : Int64))) + (((((a0 - (((a0.toUInt64 >>> ((1 : Int32).toInt64.toUInt64 &&& Int64.toUInt64 63)).toInt64) &&& (6148914691236517205 : Int64))) &&& (3689348814741910323 : Int64)) + ((((a0 - (((a0.toUInt64 >>> ((1 : Int32).toInt64.toUInt64 &&& Int64.toUInt64 63)).toInt64) &&& (6148914691236517205 : Int64))).toUInt64 >>> ((2 : Int32).toInt64.toUInt64 &&& Int64.toUInt64 63)).toInt64) &&& (3689348814741910323 : Int64))).toUInt64 >>> ((4 : Int32).toInt64.toUInt64 &&& Int64.toUInt64 63)).toInt64)) &&& (1085102592571150095 : Int64)) + (((((((a0 - (((a0.toUInt64 >>> ((1 : Int32).toInt64.toUInt64 &&& Int64.toUInt64 63)).toInt64) &&& (6148914691236517205 : Int64))) &&& (3689348814741910323 : Int64)) + ((((a0 - (((a0.toUInt64 >>> ((1 : Int32).toInt64.toUInt64 &&& Int64.toUInt64 63)).toInt64) &&& (6148914691236517205 : Int64))).toUInt64 >>> ((2 : Int32).toInt64.toUInt64 &&& Int64.toUInt64 63)).toInt64) &&& (3689348814741910323 : Int64))) + (((((a0 - (((a0.toUInt64 >>> ((1 : Int32).toInt64.toUInt64 &&& Int64.toUInt64 63)).toInt64) &&& (6148914691236517205 : Int64))) &&& (3689348814741910323 : Int64)) + ((((a0 - (((a0.toUInt64 >>> ((1 : Int32).toInt64.toUInt64 &&& Int64.toUInt64 63)).toInt64) &&& (6148914691236517205 : Int64))).toUInt64 >>> ((2 : Int32).toInt64.toUInt64 &&& Int64.toUInt64 63)).toInt64) &&& (3689348814741910323 : Int64))).toUInt64 >>> ((4 : Int32).toInt64.toUInt64 &&& Int64.toUInt64 63)).toInt64)) &&& (1085102592571150095 : Int64)).toUInt64 >>> ((8 : Int32).toInt64.toUInt64 &&& Int64.toUInt64 63)).toInt64)).toUInt64 >>> ((16 : Int32).toInt64.toUInt64 &&& Int64.toUInt64 63)).toInt64)) + (((((((((a0 - (((a0.toUInt64 >>> ((1 : Int32).toInt64.toUInt64 &&& Int64.toUInt64 63)).toInt64) &&& (6148914691236517205 : Int64))) &&& (3689348814741910323 : Int64)) + ((((a0 - (((a0.toUInt64 >>> ((1 : Int32).toInt64.toUInt64 &&& Int64.toUInt64 63)).toInt64) &&& (6148914691236517205 : Int64))).toUInt64 >>> ((2 : Int32).toInt64.toUInt64 &&& Int64.toUInt64 63)).toInt64) &&& (3689348814741910323 : Int64))) + (((((a0 - (((a0.toUInt64 >>> ((1 : Int32).toInt64.toUInt64 &&& Int64.toUInt64 63)).toInt64) &&& (6148914691236517205 : Int64))) &&& (3689348814741910323 : Int64)) + ((((a0 - (((a0.toUInt64 >>> ((1 : Int32).toInt64.toUInt64 &&& Int64.toUInt64 63)).toInt64) &&& (6148914691236517205 : Int64))).toUInt64 >>> ((2 : Int32).toInt64.toUInt64 &&& Int64.toUInt64 63)).toInt64) &&& (3689348814741910323 : Int64))).toUInt64 >>> ((4 : Int32).toInt64.toUInt64 &&& Int64.toUInt64 63)).toInt64)) &&& (1085102592571150095 : Int64)) + (((((((a0 - (((a0.toUInt64 >>> ((1 : Int32).toInt64.toUInt64 &&& Int64.toUInt64 63)).toInt64) &&& (6148914691236517205 : Int64))) &&& (3689348814741910323 : Int64)) + ((((a0 - (((a0.toUInt64 >>> ((1 : Int32).toInt64.toUInt64 &&& Int64.toUInt64 63)).toInt64) &&& (6148914691236517205 : Int64))).toUInt64 >>> ((2 : Int32).toInt64.toUInt64 &&& Int64.toUInt64 63)).toInt64) &&& (3689348814741910323 : Int64))) + (((((a0 - (((a0.toUInt64 >>> ((1 : Int32).toInt64.toUInt64 &&& Int64.toUInt64 63)).toInt64) &&& (6148914691236517205 : Int64))) &&& (3689348814741910323 : Int64)) + ((((a0 - (((a0.toUInt64 >>> ((1 : Int32).toInt64.toUInt64 &&& Int64.toUInt64 63)).toInt64) &&& (6148914691236517205 : Int64))).toUInt64 >>> ((2 : Int32).toInt64.toUInt64 &&& Int64.toUInt64 63)).toInt64) &&& (3689348814741910323 : Int64))).toUInt64 >>> ((4 : Int32).toInt64.toUInt64 &&& Int64.toUInt64 63)).toInt64)) &&& (1085102592571150095 : Int64)).toUInt64 >>> ((8 : Int32).toInt64.toUInt64 &&& Int64.toUInt64 63)).toInt64)) + ((((((((a0 - (((a0.toUInt64 >>> ((1 : Int32).toInt64.toUInt64 &&& Int64.toUInt64 63)).toInt64) &&& (6148914691236517205 : Int64))) &&& (3689348814741910323 : Int64)) + ((((a0 - (((a0.toUInt64 >>> ((1 : Int32).toInt64.toUInt64 &&& Int64.toUInt64 63)).toInt64) &&& (6148914691236517205 : Int64))).toUInt64 >>> ((2 : Int32).toInt64.toUInt64 &&& Int64.toUInt64 63)).toInt64) &&& (3689348814741910323 : Int64))) + (((((a0 - (((a0.toUInt64 >>> ((1 : Int32).toInt64.toUInt64 &&& Int64.toUInt64 63)).toInt64) &&& (6148914691236517205 : Int64))) &&& (3689348814741910323 : Int64)) + ((((a0 - (((a0.toUInt64 >>> ((1 : Int32).toInt64.toUInt64 &&& Int64.toUInt64 63)).toInt64) &&& (6148914691236517205 : Int64))).toUInt64 >>> ((2 : Int32).toInt64.toUInt64 &&& Int64.toUInt64 63)).toInt64) &&& (3689348814741910323 : Int64))).toUInt64 >>> ((4 : Int32).toInt64.toUInt64 &&& Int64.toUInt64 63)).toInt64)) &&& (1085102592571150095 : Int64)) + (((((((a0 - (((a0.toUInt64 >>> ((1 : Int32).toInt64.toUInt64 &&& Int64.toUInt64 63)).toInt64) &&& (6148914691236517205 : Int64))) &&& (3689348814741910323 : Int64)) + ((((a0 - (((a0.toUInt64 >>> ((1 : Int32).toInt64.toUInt64 &&& Int64.toUInt64 63)).toInt64) &&& (6148914691236517205 : Int64))).toUInt64 >>> ((2 : Int32).toInt64.toUInt64 &&& Int64.toUInt64 63)).toInt64) &&& (3689348814741910323 : Int64))) + (((((a0 - (((a0.toUInt64 >>> ((1 : Int32).toInt64.toUInt64 &&& Int64.toUInt64 63)).toInt64) &&& (6148914691236517205 : Int64))) &&& (3689348814741910323 : Int64)) + ((((a0 - (((a0.toUInt64 >>> ((1 : Int32).toInt64.toUInt64 &&& Int64.toUInt64 63)).toInt64) &&& (6148914691236517205 : Int64))).toUInt64 >>> ((2 : Int32).toInt64.toUInt64 &&& Int64.toUInt64 63)).toInt64) &&& (3689348814741910323 : Int64))).toUInt64 >>> ((4 : Int32).toInt64.toUInt64 &&& Int64.toUInt64 63)).toInt64)) &&& (1085102592571150095 : Int64)).toUInt64 >>> ((8 : Int32).toInt64.toUInt64 &&& Int64.toUInt64 63)).toInt64)).toUInt64 >>> ((16 : Int32).toInt64.toUInt64 &&& Int64.toUInt64 63)).toInt64)).toUInt64 >>> ((32 : Int32).toInt64.toUInt64 &&& Int64.toUInt64 63)).toInt64))), none]) hc rfl (zlt rfl) rfl rfl ?_
  refine g_lload_n (pc' := 56)  hc rfl rfl rfl ?_
  refine g_l2i (pc' := 57)  hc rfl rfl ?_
  refine g_bipush (pc' := 59) (v := (127 : Int32)) hc rfl zkb_127 rfl ?_
  refine g_iand (pc' := 60)  hc rfl rfl ?_
  replace h := zws h
  exact g_ireturn hc rfl rfl rfl (fun _ => ⟨rfl, rfl⟩) h
set_option maxRecDepth 4000 in
theorem ok_X11_count_0_p {I : pI} {J : pJ} {a1 : Int32} {Q : pQ} {d : Nat} (hd : 7 ≤ d) (h : zwp (f_X11_count a1 (I 36 2) (I 36 3) (I 31 3) (I 34) (I 31 0) (I 31 1) (I 33) (J 31 2) (I 7 12) (I 7 3) (I 7 1) (I 12) (I 7 9) (I 7 7) (I 7 0) (I 6) (I 1 1) (I 59) (I 60)) (fun w => match w with | (.inl r, o0, o1) => Q (.inl (some (.int r))) (zS 7 19 I [(59, none, o0), (60, none, o1)] J []) | (.inr E, o0, o1) => Q (.inr E) (zS 7 19 I [(59, none, o0), (60, none, o1)] J []))) : pm_call M cost zext d 100 [.ref 0, .int a1] (pm_st 108 (shp 7 19) I J) Q := by
  obtain ⟨d, rfl⟩ := zd1 hd rfl
  have hc := pm_call_m (M := M) (cost := cost) zext_m d
  refine z_in (L := [(59, none, (I 59)), (60, none, (I 60))]) (K := []) (ls := [some (.ref 0), some (.int a1)]) zmt_100 zco_100 rfl rfl (zid_a (zid_a zid_n)) zid_n ?_
  delta f_X11_count at h
  refine g_iload_n (pc' := 1)  hc rfl rfl rfl ?_
  by_cases hx1 : a1 = (0 : Int32)
  · replace h := zwp_t h hx1
    refine z_switch (pc' := 88) hc rfl (by rw [hx1]; decide +kernel) ?_
    refine g_aload_n (pc' := 89)  hc rfl rfl rfl rfl ?_
    refine z_getR (pc' := 92)  hc rfl rfl rfl sh_0 rfl rfl ?_
    refine z_getI (pc' := 95) (v := (I 7 3)) hc rfl rfl rfl sh_7 rfl rfl rfl ?_
    replace h := zws h
    exact g_ireturn hc rfl rfl rfl (fun _ => ⟨rfl, rfl⟩) h
  replace h := zwp_f h hx1
  by_cases hx2 : a1 = (1 : Int32)
  · replace h := zwp_t h hx2
    refine z_switch (pc' := 96) hc rfl (by rw [hx2]; decide +kernel) ?_
    refine g_aload_n (pc' := 97)  hc rfl rfl rfl rfl ?_
    refine z_getR (pc' := 100)  hc rfl rfl rfl sh_0 rfl rfl ?_
    refine z_getI (pc' := 103) (v := (I 7 7)) hc rfl rfl rfl sh_7 rfl rfl rfl ?_
    replace h := zws h
    exact g_ireturn hc rfl rfl rfl (fun _ => ⟨rfl, rfl⟩) h
  replace h := zwp_f h hx2
  by_cases hx3 : a1 = (2 : Int32)
  · replace h := zwp_t h hx3
    refine z_switch (pc' := 104) hc rfl (by rw [hx3]; decide +kernel) ?_
    refine g_aload_n (pc' := 105)  hc rfl rfl rfl rfl ?_
    refine z_getR (pc' := 108)  hc rfl rfl rfl sh_0 rfl rfl ?_
    refine z_getI (pc' := 111) (v := (I 7 0)) hc rfl rfl rfl sh_7 rfl rfl rfl ?_
    replace h := zws h
    exact g_ireturn hc rfl rfl rfl (fun _ => ⟨rfl, rfl⟩) h
  replace h := zwp_f h hx3
  by_cases hx4 : a1 = (3 : Int32)
  · replace h := zwp_t h hx4
    refine z_switch (pc' := 112) hc rfl (by rw [hx4]; decide +kernel) ?_
    refine g_aload_n (pc' := 113)  hc rfl rfl rfl rfl ?_
    refine z_getR (pc' := 116)  hc rfl rfl rfl sh_0 rfl rfl ?_
    refine z_getI (pc' := 119) (v := (I 7 1)) hc rfl rfl rfl sh_7 rfl rfl rfl ?_
    replace h := zws h
    exact g_ireturn hc rfl rfl rfl (fun _ => ⟨rfl, rfl⟩) h
  replace h := zwp_f h hx4
  by_cases hx5 : a1 = (4 : Int32)
  · replace h := zwp_t h hx5
    refine z_switch (pc' := 120) hc rfl (by rw [hx5]; decide +kernel) ?_
    refine g_aload_n (pc' := 121)  hc rfl rfl rfl rfl ?_
    refine z_getR (pc' := 124)  hc rfl rfl rfl sh_0 rfl rfl ?_
    refine z_getI (pc' := 127) (v := (I 31 0)) hc rfl rfl rfl sh_31 rfl rfl rfl ?_
    replace h := zws h
    exact g_ireturn hc rfl rfl rfl (fun _ => ⟨rfl, rfl⟩) h
  replace h := zwp_f h hx5
  by_cases hx6 : a1 = (5 : Int32)
  · replace h := zwp_t h hx6
    refine z_switch (pc' := 128) hc rfl (by rw [hx6]; decide +kernel) ?_
    refine g_aload_n (pc' := 129)  hc rfl rfl rfl rfl ?_
    refine z_getR (pc' := 132)  hc rfl rfl rfl sh_0 rfl rfl ?_
    refine g_aload_n (pc' := 133)  hc rfl rfl rfl rfl ?_
    refine z_getR (pc' := 136)  hc rfl rfl rfl sh_0 rfl rfl ?_
    refine z_getI (pc' := 139) (v := (I 31 0)) hc rfl rfl rfl sh_31 rfl rfl rfl ?_
    refine z_virt (as := [.int (I 31 0)]) (a := 7) (r := []) hc rfl rfl rfl rfl sh_7 rfl zco_22 rfl rfl rfl ?_
    refine ok_X3_lightOf_7 (zdp hd rfl) (zwp_mono (zwp_bind h) ?_)
    rintro r19 h
    refine z_po (pc' := 142) (st' := [.int r19]) (v := (some (.int r19))) (L' := [(59, none, (I 59)), (60, none, (I 60))]) (K' := []) zco_22 rfl rfl rfl rfl rfl rfl rfl rfl ?_
    replace h := zws h
    exact g_ireturn hc rfl rfl rfl (fun _ => ⟨rfl, rfl⟩) h
  replace h := zwp_f h hx6
  by_cases hx7 : a1 = (6 : Int32)
  · replace h := zwp_t h hx7
    refine z_switch (pc' := 143) hc rfl (by rw [hx7]; decide +kernel) ?_
    refine g_aload_n (pc' := 144)  hc rfl rfl rfl rfl ?_
    refine z_getR (pc' := 147)  hc rfl rfl rfl sh_0 rfl rfl ?_
    refine g_aload_n (pc' := 148)  hc rfl rfl rfl rfl ?_
    refine z_getR (pc' := 151)  hc rfl rfl rfl sh_0 rfl rfl ?_
    refine z_getI (pc' := 154) (v := (I 31 0)) hc rfl rfl rfl sh_31 rfl rfl rfl ?_
    refine z_virt (as := [.int (I 31 0)]) (a := 7) (r := []) hc rfl rfl rfl rfl sh_7 rfl zco_23 rfl rfl rfl ?_
    refine ok_X3_isDull_7 (zdp hd rfl) (zwp_mono (zwp_bind h) ?_)
    rintro r20 h
    refine z_po (pc' := 157) (st' := [.int r20]) (v := (some (.int r20))) (L' := [(59, none, (I 59)), (60, none, (I 60))]) (K' := []) zco_23 rfl rfl rfl rfl rfl rfl rfl rfl ?_
    refine g_if_eq (pc' := 160) hc rfl rfl (fun hx => ?_) (fun hx => ?_)
    · replace h := zwp_t h hx
      refine g_iconst (pc' := 165) (v := (0 : Int32)) hc rfl zki_0 rfl ?_
      replace h := zws h
      exact g_ireturn hc rfl rfl rfl (fun _ => ⟨rfl, rfl⟩) h
    · replace h := zwp_f h hx
      refine g_iconst (pc' := 161) (v := (1 : Int32)) hc rfl zki_1 rfl ?_
      refine g_goto hc rfl ?_
      replace h := zws h
      exact g_ireturn hc rfl rfl rfl (fun _ => ⟨rfl, rfl⟩) h
  replace h := zwp_f h hx7
  by_cases hx8 : a1 = (7 : Int32)
  · replace h := zwp_t h hx8
    refine z_switch (pc' := 166) hc rfl (by rw [hx8]; decide +kernel) ?_
    refine g_aload_n (pc' := 167)  hc rfl rfl rfl rfl ?_
    refine z_getR (pc' := 170)  hc rfl rfl rfl sh_0 rfl rfl ?_
    refine z_getI (pc' := 173) (v := (I 31 1)) hc rfl rfl rfl sh_31 rfl rfl rfl ?_
    replace h := zws h
    exact g_ireturn hc rfl rfl rfl (fun _ => ⟨rfl, rfl⟩) h
  replace h := zwp_f h hx8
  by_cases hx9 : a1 = (8 : Int32)
  · replace h := zwp_t h hx9
    refine z_switch (pc' := 174) hc rfl (by rw [hx9]; decide +kernel) ?_
    refine g_aload_n (pc' := 175)  hc rfl rfl rfl rfl ?_
    refine z_getR (pc' := 178)  hc rfl rfl rfl sh_0 rfl rfl ?_
    refine z_getJ (pc' := 181) (v := (J 31 2)) hc rfl rfl rfl sh_31 rfl rfl rfl ?_
    refine z_stat (as := [.long (J 31 2)]) (r := []) hc rfl rfl rfl rfl zco_266 rfl rfl rfl ?_
    refine ok_J13_bitCount_95d88 (zdp hd rfl) (zwp_mono (zwp_bind h) ?_)
    rintro r21 h
    refine z_po (pc' := 184) (st' := [.int r21]) (v := (some (.int r21))) (L' := [(59, none, (I 59)), (60, none, (I 60))]) (K' := []) zco_266 rfl rfl rfl rfl rfl rfl rfl rfl ?_
    replace h := zws h
    exact g_ireturn hc rfl rfl rfl (fun _ => ⟨rfl, rfl⟩) h
  replace h := zwp_f h hx9
  by_cases hx10 : a1 = (9 : Int32)
  · replace h := zwp_t h hx10
    refine z_switch (pc' := 185) hc rfl (by rw [hx10]; decide +kernel) ?_
    refine g_aload_n (pc' := 186)  hc rfl rfl rfl rfl ?_
    refine z_getR (pc' := 189)  hc rfl rfl rfl sh_0 rfl rfl ?_
    refine g_aload_n (pc' := 190)  hc rfl rfl rfl rfl ?_
    refine z_getR (pc' := 193)  hc rfl rfl rfl sh_0 rfl rfl ?_
    refine g_aload_n (pc' := 194)  hc rfl rfl rfl rfl ?_
    refine z_getR (pc' := 197)  hc rfl rfl rfl sh_0 rfl rfl ?_
    refine z_virt (as := [.ref 7, .ref 31]) (a := 58) (r := []) hc rfl rfl rfl rfl sh_58 rfl zco_94 rfl rfl rfl ?_
    refine ok_X10_parts_58_7_31 (zdp hd rfl) (zwp_mono (zwp_bind h) ?_)
    rintro ⟨r24, o22, o23⟩ h
    refine z_po (pc' := 200) (st' := [.int r24]) (v := (some (.int r24))) (L' := [(59, none, o22), (60, none, o23)]) (K' := []) zco_94 rfl rfl rfl rfl rfl rfl rfl rfl ?_
    replace h := zws h
    exact g_ireturn hc rfl rfl rfl (fun _ => ⟨rfl, rfl⟩) h
  replace h := zwp_f h hx10
  by_cases hx11 : a1 = (10 : Int32)
  · replace h := zwp_t h hx11
    refine z_switch (pc' := 201) hc rfl (by rw [hx11]; decide +kernel) ?_
    refine g_aload_n (pc' := 202)  hc rfl rfl rfl rfl ?_
    refine z_getR (pc' := 205)  hc rfl rfl rfl sh_0 rfl rfl ?_
    refine z_virt (as := []) (a := 31) (r := []) hc rfl rfl rfl rfl sh_31 rfl zco_78 rfl rfl rfl ?_
    refine ok_X8_soreOfAll_31 (zdp hd rfl) (zwp_mono (zwp_bind h) ?_)
    rintro r25 h
    refine z_po (pc' := 208) (st' := [.int r25]) (v := (some (.int r25))) (L' := [(59, none, (I 59)), (60, none, (I 60))]) (K' := []) zco_78 rfl rfl rfl rfl rfl rfl rfl rfl ?_
    replace h := zws h
    exact g_ireturn hc rfl rfl rfl (fun _ => ⟨rfl, rfl⟩) h
  replace h := zwp_f h hx11
  by_cases hx12 : a1 = (11 : Int32)
  · replace h := zwp_t h hx12
    refine z_switch (pc' := 209) hc rfl (by rw [hx12]; decide +kernel) ?_
    refine g_aload_n (pc' := 210)  hc rfl rfl rfl rfl ?_
    refine z_getR (pc' := 213)  hc rfl rfl rfl sh_0 rfl rfl ?_
    refine z_virt (as := []) (a := 31) (r := []) hc rfl rfl rfl rfl sh_31 rfl zco_79 rfl rfl rfl ?_
    refine ok_X8_heldBits_31 (zdp hd rfl) (zwp_mono (zwp_bind h) ?_)
    rintro r26 h
    refine z_po (pc' := 216) (st' := [.int r26]) (v := (some (.int r26))) (L' := [(59, none, (I 59)), (60, none, (I 60))]) (K' := []) zco_79 rfl rfl rfl rfl rfl rfl rfl rfl ?_
    replace h := zws h
    exact g_ireturn hc rfl rfl rfl (fun _ => ⟨rfl, rfl⟩) h
  replace h := zwp_f h hx12
  by_cases hx13 : a1 = (12 : Int32)
  · replace h := zwp_t h hx13
    refine z_switch (pc' := 217) hc rfl (by rw [hx13]; decide +kernel) ?_
    refine g_aload_n (pc' := 218)  hc rfl rfl rfl rfl ?_
    refine z_getR (pc' := 221)  hc rfl rfl rfl sh_0 rfl rfl ?_
    refine z_getI (pc' := 224) (v := (I 36 2)) hc rfl rfl rfl sh_36 rfl rfl rfl ?_
    replace h := zws h
    exact g_ireturn hc rfl rfl rfl (fun _ => ⟨rfl, rfl⟩) h
  replace h := zwp_f h hx13
  by_cases hx14 : a1 = (13 : Int32)
  · replace h := zwp_t h hx14
    refine z_switch (pc' := 225) hc rfl (by rw [hx14]; decide +kernel) ?_
    refine g_aload_n (pc' := 226)  hc rfl rfl rfl rfl ?_
    refine z_getR (pc' := 229)  hc rfl rfl rfl sh_0 rfl rfl ?_
    refine z_getI (pc' := 232) (v := (I 36 3)) hc rfl rfl rfl sh_36 rfl rfl rfl ?_
    replace h := zws h
    exact g_ireturn hc rfl rfl rfl (fun _ => ⟨rfl, rfl⟩) h
  replace h := zwp_f h hx14
  by_cases hx15 : a1 = (14 : Int32)
  · replace h := zwp_t h hx15
    refine z_switch (pc' := 233) hc rfl (by rw [hx15]; decide +kernel) ?_
    refine g_aload_n (pc' := 234)  hc rfl rfl rfl rfl ?_
    refine z_getR (pc' := 237)  hc rfl rfl rfl sh_0 rfl rfl ?_
    refine z_getI (pc' := 240) (v := (I 1 1)) hc rfl rfl rfl sh_1 rfl rfl rfl ?_
    replace h := zws h
    exact g_ireturn hc rfl rfl rfl (fun _ => ⟨rfl, rfl⟩) h
  replace h := zwp_f h hx15
  by_cases hx16 : a1 = (15 : Int32)
  · replace h := zwp_t h hx16
    refine z_switch (pc' := 241) hc rfl (by rw [hx16]; decide +kernel) ?_
    refine g_aload_n (pc' := 242)  hc rfl rfl rfl rfl ?_
    refine z_getR (pc' := 245)  hc rfl rfl rfl sh_0 rfl rfl ?_
    refine g_iconst (pc' := 246) (v := (0 : Int32)) hc rfl zki_0 rfl ?_
    refine z_iaload (pc' := 247) (v := (((I 6)) 0)) hc rfl rfl sh_6 (by decide) rfl rfl ?_
    replace h := zws h
    exact g_ireturn hc rfl rfl rfl (fun _ => ⟨rfl, rfl⟩) h
  replace h := zwp_f h hx16
  by_cases hx17 : a1 = (16 : Int32)
  · replace h := zwp_t h hx17
    refine z_switch (pc' := 248) hc rfl (by rw [hx17]; decide +kernel) ?_
    refine g_aload_n (pc' := 249)  hc rfl rfl rfl rfl ?_
    refine z_getR (pc' := 252)  hc rfl rfl rfl sh_0 rfl rfl ?_
    refine g_iconst (pc' := 253) (v := (1 : Int32)) hc rfl zki_1 rfl ?_
    refine z_iaload (pc' := 254) (v := (((I 6)) 1)) hc rfl rfl sh_6 (by decide) rfl rfl ?_
    replace h := zws h
    exact g_ireturn hc rfl rfl rfl (fun _ => ⟨rfl, rfl⟩) h
  replace h := zwp_f h hx17
  by_cases hx18 : a1 = (17 : Int32)
  · replace h := zwp_t h hx18
    refine z_switch (pc' := 255) hc rfl (by rw [hx18]; decide +kernel) ?_
    refine g_aload_n (pc' := 256)  hc rfl rfl rfl rfl ?_
    refine z_getR (pc' := 259)  hc rfl rfl rfl sh_0 rfl rfl ?_
    refine g_iconst (pc' := 260) (v := (2 : Int32)) hc rfl zki_2 rfl ?_
    refine z_iaload (pc' := 261) (v := (((I 6)) 2)) hc rfl rfl sh_6 (by decide) rfl rfl ?_
    replace h := zws h
    exact g_ireturn hc rfl rfl rfl (fun _ => ⟨rfl, rfl⟩) h
  replace h := zwp_f h hx18
  refine z_switch (pc' := 262) hc rfl (zsw_df (told := [(0 : Int32), (1 : Int32), (2 : Int32), (3 : Int32), (4 : Int32), (5 : Int32), (6 : Int32), (7 : Int32), (8 : Int32), (9 : Int32), (10 : Int32), (11 : Int32), (12 : Int32), (13 : Int32), (14 : Int32), (15 : Int32), (16 : Int32), (17 : Int32)]) (by decide +kernel) (by decide) rfl (zne_c hx1 (zne_c hx2 (zne_c hx3 (zne_c hx4 (zne_c hx5 (zne_c hx6 (zne_c hx7 (zne_c hx8 (zne_c hx9 (zne_c hx10 (zne_c hx11 (zne_c hx12 (zne_c hx13 (zne_c hx14 (zne_c hx15 (zne_c hx16 (zne_c hx17 (zne_c hx18 zne_n))))))))))))))))))) ?_
  replace h := zws h
  exact z_throw hc rfl rfl (zdq hd rfl) rfl rfl rfl h
set_option maxRecDepth 4000 in
theorem ok_L_count_0_107_p {I : pI} {J : pJ} {a1 : Int32} {Q : pQ} {d : Nat} (hd : 8 ≤ d) (h : zwp (f_L_count a1 1 (J 107) (I 36 2) (I 36 3) (I 31 3) (I 34) (I 31 0) (I 31 1) (I 33) (J 31 2) (I 7 12) (I 7 3) (I 7 1) (I 12) (I 7 9) (I 7 7) (I 7 0) (I 6) (I 1 1) (I 59) (I 60)) (fun w => match w with | (r, o0, o1, o2) => Q (.inl (some (.int r))) (zS 7 19 I [(59, none, o1), (60, none, o2)] J [(107, none, o0)]))) : pm_call M cost zext d 273 [.ref 0, .int a1, .ref 107] (pm_st 108 (shp 7 19) I J) Q := by
  obtain ⟨d, rfl⟩ := zd1 hd rfl
  have hc := pm_call_m (M := M) (cost := cost) zext_m d
  refine z_in (L := [(59, none, (I 59)), (60, none, (I 60))]) (K := [(107, none, (J 107))]) (ls := [some (.ref 0), some (.int a1), some (.ref 107), none]) zmt_273 zco_273 rfl rfl (zid_a (zid_a zid_n)) (zid_a zid_n) ?_
  delta f_L_count at h
  refine g_aload_n (pc' := 1)  hc rfl rfl rfl rfl ?_
  refine g_iconst (pc' := 2) (v := (0 : Int32)) hc rfl zki_0 rfl ?_
  refine g_aload_n (pc' := 3)  hc rfl rfl rfl rfl ?_
  refine g_iload_n (pc' := 4)  hc rfl rfl rfl ?_
  refine z_virt (as := [.int a1]) (a := 0) (r := [.int (0 : Int32), .ref 107]) hc rfl rfl rfl rfl sh_0 rfl zco_100 rfl rfl rfl ?_
  refine ok_X11_count_0_p (zdp hd rfl) (zwp_mono (zwp_bind h) ?_)
  rintro ⟨(r3 | E4), o1, o2⟩ h
  · refine z_po (pc' := 7) (st' := [.int r3, .int (0 : Int32), .ref 107]) (v := (some (.int r3))) (L' := [(59, none, o1), (60, none, o2)]) (K' := [(107, none, (J 107))]) zco_100 rfl rfl rfl rfl rfl rfl rfl rfl ?_
    refine g_i2l (pc' := 8)  hc rfl rfl ?_
    have hb := (zwp_bnd h).1
    replace h := (zwp_bnd h).2
    refine z_lastore (pc' := 9) (g := (J 107)) (K' := [(107, none, (vp_updL ((J 107)) (0 : Int32).toNatClampNeg r3.toInt64))]) hc rfl rfl sh_107 hb rfl rfl rfl rfl ?_
    refine g_goto hc rfl ?_
    refine g_iconst (pc' := 16) (v := (0 : Int32)) hc rfl zki_0 rfl ?_
    replace h := zws h
    exact g_ireturn hc rfl rfl rfl (fun _ => ⟨rfl, rfl⟩) h
  · by_cases hE : E4 = x_N
    · replace h := zwp_t h hE
      replace h := zws h
      exact z_poh (L' := [(59, none, o1), (60, none, o2)]) (K' := [(107, none, (J 107))]) (zhd1 (e := 9) (pc := 4) rfl hE) rfl rfl rfl rfl rfl rfl rfl rfl h
    replace h := zwp_f h hE
    exact (zwn h).elim
set_option maxRecDepth 4000 in
theorem ok_X11_checkFigure_0_p {I : pI} {J : pJ} {a1 : Int32} {Q : pQ} {d : Nat} (hd : 7 ≤ d) (h : zwp (f_X11_checkFigure a1 (I 7 3)) (fun w => match w with | .inl () => Q (.inl none) (zS 7 19 I [] J []) | .inr E => Q (.inr E) (zS 7 19 I [] J []))) : pm_call M cost zext d 133 [.ref 0, .int a1] (pm_st 108 (shp 7 19) I J) Q := by
  obtain ⟨d, rfl⟩ := zd1 hd rfl
  have hc := pm_call_m (M := M) (cost := cost) zext_m d
  refine z_in (L := []) (K := []) (ls := [some (.ref 0), some (.int a1)]) zmt_133 zco_133 rfl rfl zid_n zid_n ?_
  delta f_X11_checkFigure at h
  refine g_iload_n (pc' := 1)  hc rfl rfl rfl ?_
  refine g_if_lt (pc' := 4) hc rfl rfl (fun hx => ?_) (fun hx => ?_)
  · replace h := zwp_t h hx
    replace h := zws h
    exact z_throw hc rfl rfl (zdq hd rfl) rfl rfl rfl h
  · replace h := zwp_f h hx
    refine g_iload_n (pc' := 5)  hc rfl rfl rfl ?_
    refine g_aload_n (pc' := 6)  hc rfl rfl rfl rfl ?_
    refine z_getR (pc' := 9)  hc rfl rfl rfl sh_0 rfl rfl ?_
    refine z_getI (pc' := 12) (v := (I 7 3)) hc rfl rfl rfl sh_7 rfl rfl rfl ?_
    refine g_icmp_lt (pc' := 15) hc rfl rfl (fun hx => ?_) (fun hx => ?_)
    · replace h := zwp_t h hx
      replace h := zws h
      exact g_return hc rfl rfl (fun _ => ⟨rfl, rfl⟩) h
    · replace h := zwp_f h hx
      replace h := zws h
      exact z_throw hc rfl rfl (zdq hd rfl) rfl rfl rfl h
set_option maxRecDepth 4000 in
theorem ok_X11_figure_0_p {I : pI} {J : pJ} {a1 : Int32} {a2 : Int32} {Q : pQ} {d : Nat} (hd : 8 ≤ d) (h : zwp (f_X11_figure a1 a2 (I 32) (I 31 3) (I 34) (I 31 0) (I 35) (I 33) (I 7 3) (I 9) (I 10)) (fun w => match w with | .inl r => Q (.inl (some (.int r))) (zS 7 19 I [] J []) | .inr E => Q (.inr E) (zS 7 19 I [] J []))) : pm_call M cost zext d 101 [.ref 0, .int a1, .int a2] (pm_st 108 (shp 7 19) I J) Q := by
  obtain ⟨d, rfl⟩ := zd1 hd rfl
  have hc := pm_call_m (M := M) (cost := cost) zext_m d
  refine z_in (L := []) (K := []) (ls := [some (.ref 0), some (.int a1), some (.int a2)]) zmt_101 zco_101 rfl rfl zid_n zid_n ?_
  delta f_X11_figure at h
  refine g_aload_n (pc' := 1)  hc rfl rfl rfl rfl ?_
  refine g_iload_n (pc' := 2)  hc rfl rfl rfl ?_
  refine z_virt (as := [.int a1]) (a := 0) (r := []) hc rfl rfl rfl rfl sh_0 rfl zco_133 rfl rfl rfl ?_
  refine ok_X11_checkFigure_0_p (zdp hd rfl) (zwp_mono (zwp_bind h) ?_)
  rintro (⟨⟩ | E1) h
  · refine z_po (pc' := 5) (st' := []) (v := none) (L' := []) (K' := []) zco_133 rfl rfl rfl rfl rfl rfl rfl rfl ?_
    refine g_iload_n (pc' := 6)  hc rfl rfl rfl ?_
    by_cases hx2 : a2 = (0 : Int32)
    · replace h := zwp_t h hx2
      refine z_switch (pc' := 48) hc rfl (by rw [hx2]; decide +kernel) ?_
      refine g_aload_n (pc' := 49)  hc rfl rfl rfl rfl ?_
      refine z_getR (pc' := 52)  hc rfl rfl rfl sh_0 rfl rfl ?_
      refine z_getR (pc' := 55)  hc rfl rfl rfl sh_31 rfl rfl ?_
      refine g_iload_n (pc' := 56)  hc rfl rfl rfl ?_
      have hb := (zwp_bnd h).1
      replace h := (zwp_bnd h).2
      refine z_iaload (pc' := 57) (v := (((I 32)) a1.toNatClampNeg)) hc rfl rfl sh_32 hb rfl rfl ?_
      replace h := zws h
      exact g_ireturn hc rfl rfl rfl (fun _ => ⟨rfl, rfl⟩) h
    replace h := zwp_f h hx2
    by_cases hx3 : a2 = (1 : Int32)
    · replace h := zwp_t h hx3
      refine z_switch (pc' := 58) hc rfl (by rw [hx3]; decide +kernel) ?_
      refine g_aload_n (pc' := 59)  hc rfl rfl rfl rfl ?_
      refine z_getR (pc' := 62)  hc rfl rfl rfl sh_0 rfl rfl ?_
      refine z_getR (pc' := 65)  hc rfl rfl rfl sh_7 rfl rfl ?_
      refine g_iload_n (pc' := 66)  hc rfl rfl rfl ?_
      have hb := (zwp_bnd h).1
      replace h := (zwp_bnd h).2
      refine z_iaload (pc' := 67) (v := (((I 9)) a1.toNatClampNeg)) hc rfl rfl sh_9 hb rfl rfl ?_
      replace h := zws h
      exact g_ireturn hc rfl rfl rfl (fun _ => ⟨rfl, rfl⟩) h
    replace h := zwp_f h hx3
    by_cases hx4 : a2 = (2 : Int32)
    · replace h := zwp_t h hx4
      refine z_switch (pc' := 68) hc rfl (by rw [hx4]; decide +kernel) ?_
      refine g_aload_n (pc' := 69)  hc rfl rfl rfl rfl ?_
      refine z_getR (pc' := 72)  hc rfl rfl rfl sh_0 rfl rfl ?_
      refine z_getR (pc' := 75)  hc rfl rfl rfl sh_31 rfl rfl ?_
      refine g_iload_n (pc' := 76)  hc rfl rfl rfl ?_
      have hb := (zwp_bnd h).1
      replace h := (zwp_bnd h).2
      refine z_iaload (pc' := 77) (v := (((I 33)) a1.toNatClampNeg)) hc rfl rfl sh_33 hb rfl rfl ?_
      replace h := zws h
      exact g_ireturn hc rfl rfl rfl (fun _ => ⟨rfl, rfl⟩) h
    replace h := zwp_f h hx4
    by_cases hx5 : a2 = (3 : Int32)
    · replace h := zwp_t h hx5
      refine z_switch (pc' := 78) hc rfl (by rw [hx5]; decide +kernel) ?_
      refine g_aload_n (pc' := 79)  hc rfl rfl rfl rfl ?_
      refine z_getR (pc' := 82)  hc rfl rfl rfl sh_0 rfl rfl ?_
      refine z_getR (pc' := 85)  hc rfl rfl rfl sh_31 rfl rfl ?_
      refine g_iload_n (pc' := 86)  hc rfl rfl rfl ?_
      have hb := (zwp_bnd h).1
      replace h := (zwp_bnd h).2
      refine z_iaload (pc' := 87) (v := (((I 34)) a1.toNatClampNeg)) hc rfl rfl sh_34 hb rfl rfl ?_
      replace h := zws h
      exact g_ireturn hc rfl rfl rfl (fun _ => ⟨rfl, rfl⟩) h
    replace h := zwp_f h hx5
    by_cases hx6 : a2 = (4 : Int32)
    · replace h := zwp_t h hx6
      refine z_switch (pc' := 88) hc rfl (by rw [hx6]; decide +kernel) ?_
      refine g_aload_n (pc' := 89)  hc rfl rfl rfl rfl ?_
      refine z_getR (pc' := 92)  hc rfl rfl rfl sh_0 rfl rfl ?_
      refine g_iload_n (pc' := 93)  hc rfl rfl rfl ?_
      refine g_aload_n (pc' := 94)  hc rfl rfl rfl rfl ?_
      refine z_getR (pc' := 97)  hc rfl rfl rfl sh_0 rfl rfl ?_
      refine z_getI (pc' := 100) (v := (I 31 0)) hc rfl rfl rfl sh_31 rfl rfl rfl ?_
      refine g_aload_n (pc' := 101)  hc rfl rfl rfl rfl ?_
      refine z_getR (pc' := 104)  hc rfl rfl rfl sh_0 rfl rfl ?_
      refine z_getR (pc' := 107)  hc rfl rfl rfl sh_31 rfl rfl ?_
      refine g_iload_n (pc' := 108)  hc rfl rfl rfl ?_
      have hb := (zwp_bnd h).1
      replace h := (zwp_bnd h).2
      refine z_iaload (pc' := 109) (v := (((I 35)) a1.toNatClampNeg)) hc rfl rfl sh_35 hb rfl rfl ?_
      refine g_iadd (pc' := 110)  hc rfl rfl ?_
      refine z_virt (as := [.int a1, .int (((I 31 0)) + (((I 35)) a1.toNatClampNeg))]) (a := 7) (r := []) hc rfl rfl rfl rfl sh_7 rfl zco_24 rfl rfl rfl ?_
      refine ok_X3_stepOf_7 (zdp hd rfl) (zwp_mono (zwp_bind h) ?_)
      rintro r9 h
      refine z_po (pc' := 113) (st' := [.int r9]) (v := (some (.int r9))) (L' := []) (K' := []) zco_24 rfl rfl rfl rfl rfl rfl rfl rfl ?_
      replace h := zws h
      exact g_ireturn hc rfl rfl rfl (fun _ => ⟨rfl, rfl⟩) h
    replace h := zwp_f h hx6
    by_cases hx7 : a2 = (5 : Int32)
    · replace h := zwp_t h hx7
      refine z_switch (pc' := 114) hc rfl (by rw [hx7]; decide +kernel) ?_
      refine g_aload_n (pc' := 115)  hc rfl rfl rfl rfl ?_
      refine z_getR (pc' := 118)  hc rfl rfl rfl sh_0 rfl rfl ?_
      refine z_getR (pc' := 121)  hc rfl rfl rfl sh_31 rfl rfl ?_
      refine g_iload_n (pc' := 122)  hc rfl rfl rfl ?_
      have hb := (zwp_bnd h).1
      replace h := (zwp_bnd h).2
      refine z_iaload (pc' := 123) (v := (((I 35)) a1.toNatClampNeg)) hc rfl rfl sh_35 hb rfl rfl ?_
      replace h := zws h
      exact g_ireturn hc rfl rfl rfl (fun _ => ⟨rfl, rfl⟩) h
    replace h := zwp_f h hx7
    by_cases hx8 : a2 = (6 : Int32)
    · replace h := zwp_t h hx8
      refine z_switch (pc' := 124) hc rfl (by rw [hx8]; decide +kernel) ?_
      refine g_aload_n (pc' := 125)  hc rfl rfl rfl rfl ?_
      refine z_getR (pc' := 128)  hc rfl rfl rfl sh_0 rfl rfl ?_
      refine g_iload_n (pc' := 129)  hc rfl rfl rfl ?_
      refine z_virt (as := [.int a1]) (a := 31) (r := []) hc rfl rfl rfl rfl sh_31 rfl zco_73 rfl rfl rfl ?_
      refine ok_X8_othersWith_31 (zdp hd rfl) (zwp_mono (zwp_bind h) ?_)
      rintro r10 h
      refine z_po (pc' := 132) (st' := [.int r10]) (v := (some (.int r10))) (L' := []) (K' := []) zco_73 rfl rfl rfl rfl rfl rfl rfl rfl ?_
      replace h := zws h
      exact g_ireturn hc rfl rfl rfl (fun _ => ⟨rfl, rfl⟩) h
    replace h := zwp_f h hx8
    refine z_switch (pc' := 133) hc rfl (zsw_df (told := [(0 : Int32), (1 : Int32), (2 : Int32), (3 : Int32), (4 : Int32), (5 : Int32), (6 : Int32)]) (by decide +kernel) (by decide) rfl (zne_c hx2 (zne_c hx3 (zne_c hx4 (zne_c hx5 (zne_c hx6 (zne_c hx7 (zne_c hx8 zne_n)))))))) ?_
    replace h := zws h
    exact z_throw hc rfl rfl (zdq hd rfl) rfl rfl rfl h
  · replace h := zws h
    exact z_pox (L' := []) (K' := []) rfl rfl rfl rfl rfl rfl rfl h
set_option maxRecDepth 4000 in
theorem ok_L_figure_0_107_p {I : pI} {J : pJ} {a1 : Int32} {a2 : Int32} {Q : pQ} {d : Nat} (hd : 9 ≤ d) (h : zwp (f_L_figure a1 a2 1 (J 107) (I 32) (I 31 3) (I 34) (I 31 0) (I 35) (I 33) (I 7 3) (I 9) (I 10)) (fun w => match w with | (r, o0) => Q (.inl (some (.int r))) (zS 7 19 I [] J [(107, none, o0)]))) : pm_call M cost zext d 274 [.ref 0, .int a1, .int a2, .ref 107] (pm_st 108 (shp 7 19) I J) Q := by
  obtain ⟨d, rfl⟩ := zd1 hd rfl
  have hc := pm_call_m (M := M) (cost := cost) zext_m d
  refine z_in (L := []) (K := [(107, none, (J 107))]) (ls := [some (.ref 0), some (.int a1), some (.int a2), some (.ref 107), none]) zmt_274 zco_274 rfl rfl zid_n (zid_a zid_n) ?_
  delta f_L_figure at h
  refine g_aload_n (pc' := 1)  hc rfl rfl rfl rfl ?_
  refine g_iconst (pc' := 2) (v := (0 : Int32)) hc rfl zki_0 rfl ?_
  refine g_aload_n (pc' := 3)  hc rfl rfl rfl rfl ?_
  refine g_iload_n (pc' := 4)  hc rfl rfl rfl ?_
  refine g_iload_n (pc' := 5)  hc rfl rfl rfl ?_
  refine z_virt (as := [.int a1, .int a2]) (a := 0) (r := [.int (0 : Int32), .ref 107]) hc rfl rfl rfl rfl sh_0 rfl zco_101 rfl rfl rfl ?_
  refine ok_X11_figure_0_p (zdp hd rfl) (zwp_mono (zwp_bind h) ?_)
  rintro (r1 | E2) h
  · refine z_po (pc' := 8) (st' := [.int r1, .int (0 : Int32), .ref 107]) (v := (some (.int r1))) (L' := []) (K' := [(107, none, (J 107))]) zco_101 rfl rfl rfl rfl rfl rfl rfl rfl ?_
    refine g_i2l (pc' := 9)  hc rfl rfl ?_
    have hb := (zwp_bnd h).1
    replace h := (zwp_bnd h).2
    refine z_lastore (pc' := 10) (g := (J 107)) (K' := [(107, none, (vp_updL ((J 107)) (0 : Int32).toNatClampNeg r1.toInt64))]) hc rfl rfl sh_107 hb rfl rfl rfl rfl ?_
    refine g_goto hc rfl ?_
    refine g_iconst (pc' := 18) (v := (0 : Int32)) hc rfl zki_0 rfl ?_
    replace h := zws h
    exact g_ireturn hc rfl rfl rfl (fun _ => ⟨rfl, rfl⟩) h
  · by_cases hE : E2 = x_N
    · replace h := zwp_t h hE
      replace h := zws h
      exact z_poh (L' := []) (K' := [(107, none, (J 107))]) (zhd1 (e := 10) (pc := 5) rfl hE) rfl rfl rfl rfl rfl rfl rfl rfl h
    replace h := zwp_f h hE
    exact (zwn h).elim
set_option maxRecDepth 4000 in
theorem ok_X11_checkCell_0_p {I : pI} {J : pJ} {a1 : Int32} {Q : pQ} {d : Nat} (hd : 7 ≤ d) (h : zwp (f_X11_checkCell a1 (I 7 1) (I 7 0)) (fun w => match w with | .inl () => Q (.inl none) (zS 7 19 I [] J []) | .inr E => Q (.inr E) (zS 7 19 I [] J []))) : pm_call M cost zext d 134 [.ref 0, .int a1] (pm_st 108 (shp 7 19) I J) Q := by
  obtain ⟨d, rfl⟩ := zd1 hd rfl
  have hc := pm_call_m (M := M) (cost := cost) zext_m d
  refine z_in (L := []) (K := []) (ls := [some (.ref 0), some (.int a1)]) zmt_134 zco_134 rfl rfl zid_n zid_n ?_
  delta f_X11_checkCell at h
  refine g_iload_n (pc' := 1)  hc rfl rfl rfl ?_
  refine g_if_lt (pc' := 4) hc rfl rfl (fun hx => ?_) (fun hx => ?_)
  · replace h := zwp_t h hx
    replace h := zws h
    exact z_throw hc rfl rfl (zdq hd rfl) rfl rfl rfl h
  · replace h := zwp_f h hx
    refine g_iload_n (pc' := 5)  hc rfl rfl rfl ?_
    refine g_aload_n (pc' := 6)  hc rfl rfl rfl rfl ?_
    refine z_getR (pc' := 9)  hc rfl rfl rfl sh_0 rfl rfl ?_
    refine z_virt (as := []) (a := 7) (r := [.int a1]) hc rfl rfl rfl rfl sh_7 rfl zco_21 rfl rfl rfl ?_
    refine ok_X3_cells_7 (zdp hd rfl) (zwp_mono (zwp_bind h) ?_)
    rintro r1 h
    refine z_po (pc' := 12) (st' := [.int r1, .int a1]) (v := (some (.int r1))) (L' := []) (K' := []) zco_21 rfl rfl rfl rfl rfl rfl rfl rfl ?_
    refine g_icmp_lt (pc' := 15) hc rfl rfl (fun hx => ?_) (fun hx => ?_)
    · replace h := zwp_t h hx
      replace h := zws h
      exact g_return hc rfl rfl (fun _ => ⟨rfl, rfl⟩) h
    · replace h := zwp_f h hx
      replace h := zws h
      exact z_throw hc rfl rfl (zdq hd rfl) rfl rfl rfl h
set_option maxRecDepth 4000 in
theorem ok_X8_figuresAt_31 {p q : Nat} {I : pI} {J : pJ} {a1 : Int32} {Q : pQ} {d : Nat} (hd : 1 ≤ d) (h : zwp (f_X8_figuresAt a1 (I 32) (I 31 3)) (fun r => Q (.inl (some (.int r))) (zS p q I [] J []))) : pm_call M cost zext d 72 [.ref 31, .int a1] (pm_st 108 (shp p q) I J) Q := by
  obtain ⟨d, rfl⟩ := zd1 hd rfl
  have hc := pm_call_m (M := M) (cost := cost) zext_m d
  refine z_in (L := []) (K := []) (ls := [some (.ref 31), some (.int a1), none, none]) zmt_72 zco_72 rfl rfl zid_n zid_n ?_
  delta f_X8_figuresAt at h
  refine g_iconst (pc' := 1) (v := (0 : Int32)) hc rfl zki_0 rfl ?_
  refine g_istore_n (pc' := 2) (ls1 := [some (.ref 31), some (.int a1), some (.int (0 : Int32)), none]) hc rfl (zlt rfl) rfl rfl ?_
  refine g_iconst (pc' := 3) (v := (0 : Int32)) hc rfl zki_0 rfl ?_
  refine g_istore_n (pc' := 4) (ls1 := [some (.ref 31), some (.int a1), some (.int (0 : Int32)), some (.int (0 : Int32))]) hc rfl (zlt rfl) rfl rfl ?_
  refine zjn (G := (fun (y3 : Int32) => ∀ z4 : Option Value, znl z4 = true → pm_ev C_X8_figuresAt (d + 1) (pm_call M cost zext d) cost (false, false) 108 0 0 Q 34 [some (.ref 31), some (.int a1), some (.int y3), z4] [] 0 0 (zS p q I [] J []))) (zwp_bind h) ?_ (fun h => ?_)
  · rintro y3 h z4 hz4
    refine g_iload_n (pc' := 35)  hc rfl rfl rfl ?_
    replace h := zws h
    exact g_ireturn hc rfl rfl rfl (fun _ => ⟨rfl, rfl⟩) h
  refine zitr_ev (G := (fun (g : Int32 × Int32) => match g with | (x1, x2) => pm_ev C_X8_figuresAt (d + 1) (pm_call M cost zext d) cost (false, false) 108 0 0 Q 4 [some (.ref 31), some (.int a1), some (.int x1), some (.int x2)] [] 0 0 (zS p q I [] J []))) ?_ zFU ((0 : Int32), (0 : Int32)) h
  rintro ⟨x1, x2⟩ h
  refine g_iload_n (pc' := 5)  hc rfl rfl rfl ?_
  refine g_aload_n (pc' := 6)  hc rfl rfl rfl rfl ?_
  refine z_getI (pc' := 9) (v := (I 31 3)) hc rfl rfl rfl sh_31 rfl rfl rfl ?_
  refine g_icmp_ge (pc' := 12) hc rfl rfl (fun hx => ?_) (fun hx => ?_)
  · replace h := zwp_t h hx
    replace h := zwp_r h
    exact h (some (.int x2)) rfl
  · replace h := zwp_f h hx
    refine g_aload_n (pc' := 13)  hc rfl rfl rfl rfl ?_
    refine z_getR (pc' := 16)  hc rfl rfl rfl sh_31 rfl rfl ?_
    refine g_iload_n (pc' := 17)  hc rfl rfl rfl ?_
    have hb := (zwp_bnd h).1
    replace h := (zwp_bnd h).2
    refine z_iaload (pc' := 18) (v := (((I 32)) x2.toNatClampNeg)) hc rfl rfl sh_32 hb rfl rfl ?_
    refine g_iload_n (pc' := 19)  hc rfl rfl rfl ?_
    refine g_icmp_ne (pc' := 22) hc rfl rfl (fun hx => ?_) (fun hx => ?_)
    · replace h := zwp_f h hx
      refine g_iinc (pc' := 31) (ls1 := [some (.ref 31), some (.int a1), some (.int x1), some (.int (x2 + (1 : Int32)))]) hc rfl rfl zki_1 (zlt rfl) rfl rfl ?_
      refine g_goto hc rfl ?_
      replace h := zwp_l h
      exact h
    · replace h := zwp_t h hx
      refine g_iload_n (pc' := 23)  hc rfl rfl rfl ?_
      refine g_iconst (pc' := 24) (v := (1 : Int32)) hc rfl zki_1 rfl ?_
      refine g_iload_n (pc' := 25)  hc rfl rfl rfl ?_
      refine g_ishl (pc' := 26)  hc rfl rfl ?_
      refine g_ior (pc' := 27)  hc rfl rfl ?_
      refine g_istore_n (pc' := 28) (ls1 := [some (.ref 31), some (.int a1), some (.int (x1 ||| ((1 : Int32) <<< (x2 &&& 31)))), some (.int x2)]) hc rfl (zlt rfl) rfl rfl ?_
      refine g_iinc (pc' := 31) (ls1 := [some (.ref 31), some (.int a1), some (.int (x1 ||| ((1 : Int32) <<< (x2 &&& 31)))), some (.int (x2 + (1 : Int32)))]) hc rfl rfl zki_1 (zlt rfl) rfl rfl ?_
      refine g_goto hc rfl ?_
      replace h := zwp_l h
      exact h
set_option maxRecDepth 4000 in
theorem ok_X10_seenFrom_58_7_31 {p q : Nat} {I : pI} {J : pJ} {a3 : Int32} {Q : pQ} {d : Nat} (hd : 3 ≤ d) (h : zwp (f_X10_seenFrom a3 (I 7 1) (I 7 0) (I 32) (I 31 3) (J 31 2)) (fun r => Q (.inl (some (.int r))) (zS p q I [] J []))) : pm_call M cost zext d 95 [.ref 58, .ref 7, .ref 31, .int a3] (pm_st 108 (shp p q) I J) Q := by
  obtain ⟨d, rfl⟩ := zd1 hd rfl
  have hc := pm_call_m (M := M) (cost := cost) zext_m d
  refine z_in (L := []) (K := []) (ls := [some (.ref 58), some (.ref 7), some (.ref 31), some (.int a3), none, none, none, none]) zmt_95 zco_95 rfl rfl zid_n zid_n ?_
  delta f_X10_seenFrom at h
  refine g_aload_n (pc' := 1)  hc rfl rfl rfl rfl ?_
  refine g_iload_n (pc' := 2)  hc rfl rfl rfl ?_
  refine z_virt (as := [.int a3]) (a := 31) (r := []) hc rfl rfl rfl rfl sh_31 rfl zco_72 rfl rfl rfl ?_
  refine ok_X8_figuresAt_31 (zdp hd rfl) (zwp_mono (zwp_bind h) ?_)
  rintro r1 h
  refine z_po (pc' := 5) (st' := [.int r1]) (v := (some (.int r1))) (L' := []) (K' := []) zco_72 rfl rfl rfl rfl rfl rfl rfl rfl ?_
  refine g_istore (pc' := 7) (ls1 := [some (.ref 58), some (.ref 7), some (.ref 31), some (.int a3), some (.int r1), none, none, none]) hc rfl (zlt rfl) rfl rfl ?_
  refine g_iconst (pc' := 8) (v := (1 : Int32)) hc rfl zki_1 rfl ?_
  refine g_istore (pc' := 10) (ls1 := [some (.ref 58), some (.ref 7), some (.ref 31), some (.int a3), some (.int r1), some (.int (1 : Int32)), none, none]) hc rfl (zlt rfl) rfl rfl ?_
  refine zjn (G := (fun (y6 : Int32) => ∀ z7 : Option Value, znl z7 = true → ∀ z8 : Option Value, znl z8 = true → ∀ z9 : Option Value, znl z9 = true → pm_ev C_X10_seenFrom (d + 1) (pm_call M cost zext d) cost (false, false) 108 0 0 Q 83 [some (.ref 58), some (.ref 7), some (.ref 31), some (.int a3), some (.int y6), z7, z8, z9] [] 0 0 (zS p q I [] J []))) (zwp_bind h) ?_ (fun h => ?_)
  · rintro y6 h z7 hz7 z8 hz8 z9 hz9
    refine g_iload (pc' := 85)  hc rfl rfl rfl ?_
    replace h := zws h
    exact g_ireturn hc rfl rfl rfl (fun _ => ⟨rfl, rfl⟩) h
  refine zitr_ev (G := (fun (g : Int32 × Int32) => match g with | (x2, x3) => ∀ z4 : Option Value, znl z4 = true → ∀ z5 : Option Value, znl z5 = true → pm_ev C_X10_seenFrom (d + 1) (pm_call M cost zext d) cost (false, false) 108 0 0 Q 10 [some (.ref 58), some (.ref 7), some (.ref 31), some (.int a3), some (.int x2), some (.int x3), z4, z5] [] 0 0 (zS p q I [] J []))) ?_ zFU (r1, (1 : Int32)) h none rfl none rfl
  rintro ⟨x2, x3⟩ h z4 hz4 z5 hz5
  refine g_iload (pc' := 12)  hc rfl rfl rfl ?_
  refine g_iconst (pc' := 13) (v := (4 : Int32)) hc rfl zki_4 rfl ?_
  refine g_icmp_gt (pc' := 16) hc rfl rfl (fun hx => ?_) (fun hx => ?_)
  · replace h := zwp_t h hx
    replace h := zwp_r h
    exact h (some (.int x3)) rfl z4 hz4 z5 hz5
  · replace h := zwp_f h hx
    refine g_aload_n (pc' := 17)  hc rfl rfl rfl rfl ?_
    refine g_iload_n (pc' := 18)  hc rfl rfl rfl ?_
    refine g_iload (pc' := 20)  hc rfl rfl rfl ?_
    refine z_virt (as := [.int a3, .int x3]) (a := 7) (r := []) hc rfl rfl rfl rfl sh_7 rfl zco_28 rfl rfl rfl ?_
    refine ok_X3_beside_7 (zdp hd rfl) (zwp_mono (zwp_bind h) ?_)
    rintro r10 h
    refine z_po (pc' := 23) (st' := [.int r10]) (v := (some (.int r10))) (L' := []) (K' := []) zco_28 rfl rfl rfl rfl rfl rfl rfl rfl ?_
    refine g_istore (pc' := 25) (ls1 := [some (.ref 58), some (.ref 7), some (.ref 31), some (.int a3), some (.int x2), some (.int x3), some (.int r10), z5]) hc rfl (zlt rfl) rfl rfl ?_
    refine g_iconst (pc' := 26) (v := (0 : Int32)) hc rfl zki_0 rfl ?_
    refine g_istore (pc' := 28) (ls1 := [some (.ref 58), some (.ref 7), some (.ref 31), some (.int a3), some (.int x2), some (.int x3), some (.int r10), some (.int (0 : Int32))]) hc rfl (zlt rfl) rfl rfl ?_
    refine zjn (G := (fun (y14 : Int32) => ∀ z15 : Option Value, znl z15 = true → ∀ z16 : Option Value, znl z16 = true → pm_ev C_X10_seenFrom (d + 1) (pm_call M cost zext d) cost (false, false) 108 0 0 Q 77 [some (.ref 58), some (.ref 7), some (.ref 31), some (.int a3), some (.int y14), some (.int x3), z15, z16] [] 0 0 (zS p q I [] J []))) (zwp_bind h) ?_ (fun h => ?_)
    · rintro y14 h z15 hz15 z16 hz16
      refine g_iinc (pc' := 80) (ls1 := [some (.ref 58), some (.ref 7), some (.ref 31), some (.int a3), some (.int y14), some (.int (x3 + (1 : Int32))), z15, z16]) hc rfl rfl zki_1 (zlt rfl) rfl rfl ?_
      refine g_goto hc rfl ?_
      replace h := zwp_l h
      exact h z15 hz15 z16 hz16
    refine zitr_ev (G := (fun (g : Int32 × Int32 × Int32) => match g with | (x11, x12, x13) => pm_ev C_X10_seenFrom (d + 1) (pm_call M cost zext d) cost (false, false) 108 0 0 Q 28 [some (.ref 58), some (.ref 7), some (.ref 31), some (.int a3), some (.int x11), some (.int x3), some (.int x12), some (.int x13)] [] 0 0 (zS p q I [] J []))) ?_ zFU (x2, r10, (0 : Int32)) h
    rintro ⟨x11, x12, x13⟩ h
    refine g_iload (pc' := 30)  hc rfl rfl rfl ?_
    refine g_bipush (pc' := 32) (v := (36 : Int32)) hc rfl zkb_36 rfl ?_
    refine g_icmp_ge (pc' := 35) hc rfl rfl (fun hx => ?_) (fun hx => ?_)
    · replace h := zwp_t h hx
      replace h := zwp_r h
      exact h (some (.int x12)) rfl (some (.int x13)) rfl
    · replace h := zwp_f h hx
      refine g_iload (pc' := 37)  hc rfl rfl rfl ?_
      refine g_iconst (pc' := 38) (v := (-1 : Int32)) hc rfl zki_m1 rfl ?_
      refine g_icmp_eq (pc' := 41) hc rfl rfl (fun hx => ?_) (fun hx => ?_)
      · replace h := zwp_t h hx
        replace h := zwp_r h
        exact h (some (.int x12)) rfl (some (.int x13)) rfl
      · replace h := zwp_f h hx
        refine g_aload_n (pc' := 42)  hc rfl rfl rfl rfl ?_
        refine g_iload (pc' := 44)  hc rfl rfl rfl ?_
        refine z_virt (as := [.int x12]) (a := 31) (r := []) hc rfl rfl rfl rfl sh_31 rfl zco_71 rfl rfl rfl ?_
        refine ok_X8_isWall_31 (zdp hd rfl) (zwp_mono (zwp_bind h) ?_)
        rintro r17 h
        refine z_po (pc' := 47) (st' := [.int r17]) (v := (some (.int r17))) (L' := []) (K' := []) zco_71 rfl rfl rfl rfl rfl rfl rfl rfl ?_
        refine g_if_ne (pc' := 50) hc rfl rfl (fun hx => ?_) (fun hx => ?_)
        · replace h := zwp_f h hx
          replace h := zwp_r h
          exact h (some (.int x12)) rfl (some (.int x13)) rfl
        · replace h := zwp_t h hx
          refine g_iload (pc' := 52)  hc rfl rfl rfl ?_
          refine g_aload_n (pc' := 53)  hc rfl rfl rfl rfl ?_
          refine g_iload (pc' := 55)  hc rfl rfl rfl ?_
          refine z_virt (as := [.int x12]) (a := 31) (r := [.int x11]) hc rfl rfl rfl rfl sh_31 rfl zco_72 rfl rfl rfl ?_
          refine ok_X8_figuresAt_31 (zdp hd rfl) (zwp_mono (zwp_bind h) ?_)
          rintro r18 h
          refine z_po (pc' := 58) (st' := [.int r18, .int x11]) (v := (some (.int r18))) (L' := []) (K' := []) zco_72 rfl rfl rfl rfl rfl rfl rfl rfl ?_
          refine g_ior (pc' := 59)  hc rfl rfl ?_
          refine g_istore (pc' := 61) (ls1 := [some (.ref 58), some (.ref 7), some (.ref 31), some (.int a3), some (.int (x11 ||| r18)), some (.int x3), some (.int x12), some (.int x13)]) hc rfl (zlt rfl) rfl rfl ?_
          refine g_aload_n (pc' := 62)  hc rfl rfl rfl rfl ?_
          refine g_iload (pc' := 64)  hc rfl rfl rfl ?_
          refine g_iload (pc' := 66)  hc rfl rfl rfl ?_
          refine z_virt (as := [.int x12, .int x3]) (a := 7) (r := []) hc rfl rfl rfl rfl sh_7 rfl zco_28 rfl rfl rfl ?_
          refine ok_X3_beside_7 (zdp hd rfl) (zwp_mono (zwp_bind h) ?_)
          rintro r19 h
          refine z_po (pc' := 69) (st' := [.int r19]) (v := (some (.int r19))) (L' := []) (K' := []) zco_28 rfl rfl rfl rfl rfl rfl rfl rfl ?_
          refine g_istore (pc' := 71) (ls1 := [some (.ref 58), some (.ref 7), some (.ref 31), some (.int a3), some (.int (x11 ||| r18)), some (.int x3), some (.int r19), some (.int x13)]) hc rfl (zlt rfl) rfl rfl ?_
          refine g_iinc (pc' := 74) (ls1 := [some (.ref 58), some (.ref 7), some (.ref 31), some (.int a3), some (.int (x11 ||| r18)), some (.int x3), some (.int r19), some (.int (x13 + (1 : Int32)))]) hc rfl rfl zki_1 (zlt rfl) rfl rfl ?_
          refine g_goto hc rfl ?_
          replace h := zwp_l h
          exact h
set_option maxRecDepth 4000 in
theorem ok_X3_seatsAt_7 {p q : Nat} {I : pI} {J : pJ} {a1 : Int32} {Q : pQ} {d : Nat} (hd : 1 ≤ d) (h : zwp (f_X3_seatsAt a1 (I 11) (I 7 7)) (fun r => Q (.inl (some (.int r))) (zS p q I [] J []))) : pm_call M cost zext d 25 [.ref 7, .int a1] (pm_st 108 (shp p q) I J) Q := by
  obtain ⟨d, rfl⟩ := zd1 hd rfl
  have hc := pm_call_m (M := M) (cost := cost) zext_m d
  refine z_in (L := []) (K := []) (ls := [some (.ref 7), some (.int a1), none, none]) zmt_25 zco_25 rfl rfl zid_n zid_n ?_
  delta f_X3_seatsAt at h
  refine g_iconst (pc' := 1) (v := (0 : Int32)) hc rfl zki_0 rfl ?_
  refine g_istore_n (pc' := 2) (ls1 := [some (.ref 7), some (.int a1), some (.int (0 : Int32)), none]) hc rfl (zlt rfl) rfl rfl ?_
  refine g_iconst (pc' := 3) (v := (0 : Int32)) hc rfl zki_0 rfl ?_
  refine g_istore_n (pc' := 4) (ls1 := [some (.ref 7), some (.int a1), some (.int (0 : Int32)), some (.int (0 : Int32))]) hc rfl (zlt rfl) rfl rfl ?_
  refine zjn (G := (fun (y3 : Int32) => ∀ z4 : Option Value, znl z4 = true → pm_ev C_X3_seatsAt (d + 1) (pm_call M cost zext d) cost (false, false) 108 0 0 Q 34 [some (.ref 7), some (.int a1), some (.int y3), z4] [] 0 0 (zS p q I [] J []))) (zwp_bind h) ?_ (fun h => ?_)
  · rintro y3 h z4 hz4
    refine g_iload_n (pc' := 35)  hc rfl rfl rfl ?_
    replace h := zws h
    exact g_ireturn hc rfl rfl rfl (fun _ => ⟨rfl, rfl⟩) h
  refine zitr_ev (G := (fun (g : Int32 × Int32) => match g with | (x1, x2) => pm_ev C_X3_seatsAt (d + 1) (pm_call M cost zext d) cost (false, false) 108 0 0 Q 4 [some (.ref 7), some (.int a1), some (.int x1), some (.int x2)] [] 0 0 (zS p q I [] J []))) ?_ zFU ((0 : Int32), (0 : Int32)) h
  rintro ⟨x1, x2⟩ h
  refine g_iload_n (pc' := 5)  hc rfl rfl rfl ?_
  refine g_aload_n (pc' := 6)  hc rfl rfl rfl rfl ?_
  refine z_getI (pc' := 9) (v := (I 7 7)) hc rfl rfl rfl sh_7 rfl rfl rfl ?_
  refine g_icmp_ge (pc' := 12) hc rfl rfl (fun hx => ?_) (fun hx => ?_)
  · replace h := zwp_t h hx
    replace h := zwp_r h
    exact h (some (.int x2)) rfl
  · replace h := zwp_f h hx
    refine g_aload_n (pc' := 13)  hc rfl rfl rfl rfl ?_
    refine z_getR (pc' := 16)  hc rfl rfl rfl sh_7 rfl rfl ?_
    refine g_iload_n (pc' := 17)  hc rfl rfl rfl ?_
    have hb := (zwp_bnd h).1
    replace h := (zwp_bnd h).2
    refine z_iaload (pc' := 18) (v := (((I 11)) x2.toNatClampNeg)) hc rfl rfl sh_11 hb rfl rfl ?_
    refine g_iload_n (pc' := 19)  hc rfl rfl rfl ?_
    refine g_icmp_ne (pc' := 22) hc rfl rfl (fun hx => ?_) (fun hx => ?_)
    · replace h := zwp_f h hx
      refine g_iinc (pc' := 31) (ls1 := [some (.ref 7), some (.int a1), some (.int x1), some (.int (x2 + (1 : Int32)))]) hc rfl rfl zki_1 (zlt rfl) rfl rfl ?_
      refine g_goto hc rfl ?_
      replace h := zwp_l h
      exact h
    · replace h := zwp_t h hx
      refine g_iload_n (pc' := 23)  hc rfl rfl rfl ?_
      refine g_iconst (pc' := 24) (v := (1 : Int32)) hc rfl zki_1 rfl ?_
      refine g_iload_n (pc' := 25)  hc rfl rfl rfl ?_
      refine g_ishl (pc' := 26)  hc rfl rfl ?_
      refine g_ior (pc' := 27)  hc rfl rfl ?_
      refine g_istore_n (pc' := 28) (ls1 := [some (.ref 7), some (.int a1), some (.int (x1 ||| ((1 : Int32) <<< (x2 &&& 31)))), some (.int x2)]) hc rfl (zlt rfl) rfl rfl ?_
      refine g_iinc (pc' := 31) (ls1 := [some (.ref 7), some (.int a1), some (.int (x1 ||| ((1 : Int32) <<< (x2 &&& 31)))), some (.int (x2 + (1 : Int32)))]) hc rfl rfl zki_1 (zlt rfl) rfl rfl ?_
      refine g_goto hc rfl ?_
      replace h := zwp_l h
      exact h
set_option maxRecDepth 4000 in
theorem ok_X11_cell_0_p {I : pI} {J : pJ} {a1 : Int32} {a2 : Int32} {Q : pQ} {d : Nat} (hd : 8 ≤ d) (h : zwp (f_X11_cell a1 a2 (I 32) (I 31 3) (J 31 2) (I 7 1) (I 11) (I 7 7) (I 7 0)) (fun w => match w with | .inl r => Q (.inl (some (.int r))) (zS 7 19 I [] J []) | .inr E => Q (.inr E) (zS 7 19 I [] J []))) : pm_call M cost zext d 102 [.ref 0, .int a1, .int a2] (pm_st 108 (shp 7 19) I J) Q := by
  obtain ⟨d, rfl⟩ := zd1 hd rfl
  have hc := pm_call_m (M := M) (cost := cost) zext_m d
  refine z_in (L := []) (K := []) (ls := [some (.ref 0), some (.int a1), some (.int a2)]) zmt_102 zco_102 rfl rfl zid_n zid_n ?_
  delta f_X11_cell at h
  refine g_aload_n (pc' := 1)  hc rfl rfl rfl rfl ?_
  refine g_iload_n (pc' := 2)  hc rfl rfl rfl ?_
  refine z_virt (as := [.int a1]) (a := 0) (r := []) hc rfl rfl rfl rfl sh_0 rfl zco_134 rfl rfl rfl ?_
  refine ok_X11_checkCell_0_p (zdp hd rfl) (zwp_mono (zwp_bind h) ?_)
  rintro (⟨⟩ | E1) h
  · refine z_po (pc' := 5) (st' := []) (v := none) (L' := []) (K' := []) zco_134 rfl rfl rfl rfl rfl rfl rfl rfl ?_
    refine g_iload_n (pc' := 6)  hc rfl rfl rfl ?_
    by_cases hx2 : a2 = (0 : Int32)
    · replace h := zwp_t h hx2
      refine z_switch (pc' := 36) hc rfl (by rw [hx2]; decide +kernel) ?_
      refine g_aload_n (pc' := 37)  hc rfl rfl rfl rfl ?_
      refine z_getR (pc' := 40)  hc rfl rfl rfl sh_0 rfl rfl ?_
      refine g_iload_n (pc' := 41)  hc rfl rfl rfl ?_
      refine z_virt (as := [.int a1]) (a := 31) (r := []) hc rfl rfl rfl rfl sh_31 rfl zco_71 rfl rfl rfl ?_
      refine ok_X8_isWall_31 (zdp hd rfl) (zwp_mono (zwp_bind h) ?_)
      rintro r6 h
      refine z_po (pc' := 44) (st' := [.int r6]) (v := (some (.int r6))) (L' := []) (K' := []) zco_71 rfl rfl rfl rfl rfl rfl rfl rfl ?_
      refine g_if_eq (pc' := 47) hc rfl rfl (fun hx => ?_) (fun hx => ?_)
      · replace h := zwp_t h hx
        refine g_iconst (pc' := 52) (v := (0 : Int32)) hc rfl zki_0 rfl ?_
        replace h := zws h
        exact g_ireturn hc rfl rfl rfl (fun _ => ⟨rfl, rfl⟩) h
      · replace h := zwp_f h hx
        refine g_iconst (pc' := 48) (v := (1 : Int32)) hc rfl zki_1 rfl ?_
        refine g_goto hc rfl ?_
        replace h := zws h
        exact g_ireturn hc rfl rfl rfl (fun _ => ⟨rfl, rfl⟩) h
    replace h := zwp_f h hx2
    by_cases hx3 : a2 = (1 : Int32)
    · replace h := zwp_t h hx3
      refine z_switch (pc' := 53) hc rfl (by rw [hx3]; decide +kernel) ?_
      refine g_aload_n (pc' := 54)  hc rfl rfl rfl rfl ?_
      refine z_getR (pc' := 57)  hc rfl rfl rfl sh_0 rfl rfl ?_
      refine g_iload_n (pc' := 58)  hc rfl rfl rfl ?_
      refine z_virt (as := [.int a1]) (a := 31) (r := []) hc rfl rfl rfl rfl sh_31 rfl zco_72 rfl rfl rfl ?_
      refine ok_X8_figuresAt_31 (zdp hd rfl) (zwp_mono (zwp_bind h) ?_)
      rintro r7 h
      refine z_po (pc' := 61) (st' := [.int r7]) (v := (some (.int r7))) (L' := []) (K' := []) zco_72 rfl rfl rfl rfl rfl rfl rfl rfl ?_
      replace h := zws h
      exact g_ireturn hc rfl rfl rfl (fun _ => ⟨rfl, rfl⟩) h
    replace h := zwp_f h hx3
    by_cases hx4 : a2 = (2 : Int32)
    · replace h := zwp_t h hx4
      refine z_switch (pc' := 62) hc rfl (by rw [hx4]; decide +kernel) ?_
      refine g_aload_n (pc' := 63)  hc rfl rfl rfl rfl ?_
      refine z_getR (pc' := 66)  hc rfl rfl rfl sh_0 rfl rfl ?_
      refine g_iload_n (pc' := 67)  hc rfl rfl rfl ?_
      refine z_virt (as := [.int a1]) (a := 7) (r := []) hc rfl rfl rfl rfl sh_7 rfl zco_25 rfl rfl rfl ?_
      refine ok_X3_seatsAt_7 (zdp hd rfl) (zwp_mono (zwp_bind h) ?_)
      rintro r8 h
      refine z_po (pc' := 70) (st' := [.int r8]) (v := (some (.int r8))) (L' := []) (K' := []) zco_25 rfl rfl rfl rfl rfl rfl rfl rfl ?_
      replace h := zws h
      exact g_ireturn hc rfl rfl rfl (fun _ => ⟨rfl, rfl⟩) h
    replace h := zwp_f h hx4
    by_cases hx5 : a2 = (3 : Int32)
    · replace h := zwp_t h hx5
      refine z_switch (pc' := 71) hc rfl (by rw [hx5]; decide +kernel) ?_
      refine g_aload_n (pc' := 72)  hc rfl rfl rfl rfl ?_
      refine z_getR (pc' := 75)  hc rfl rfl rfl sh_0 rfl rfl ?_
      refine g_aload_n (pc' := 76)  hc rfl rfl rfl rfl ?_
      refine z_getR (pc' := 79)  hc rfl rfl rfl sh_0 rfl rfl ?_
      refine g_aload_n (pc' := 80)  hc rfl rfl rfl rfl ?_
      refine z_getR (pc' := 83)  hc rfl rfl rfl sh_0 rfl rfl ?_
      refine g_iload_n (pc' := 84)  hc rfl rfl rfl ?_
      refine z_virt (as := [.ref 7, .ref 31, .int a1]) (a := 58) (r := []) hc rfl rfl rfl rfl sh_58 rfl zco_95 rfl rfl rfl ?_
      refine ok_X10_seenFrom_58_7_31 (zdp hd rfl) (zwp_mono (zwp_bind h) ?_)
      rintro r9 h
      refine z_po (pc' := 87) (st' := [.int r9]) (v := (some (.int r9))) (L' := []) (K' := []) zco_95 rfl rfl rfl rfl rfl rfl rfl rfl ?_
      replace h := zws h
      exact g_ireturn hc rfl rfl rfl (fun _ => ⟨rfl, rfl⟩) h
    replace h := zwp_f h hx5
    refine z_switch (pc' := 88) hc rfl (zsw_df (told := [(0 : Int32), (1 : Int32), (2 : Int32), (3 : Int32)]) (by decide +kernel) (by decide) rfl (zne_c hx2 (zne_c hx3 (zne_c hx4 (zne_c hx5 zne_n))))) ?_
    replace h := zws h
    exact z_throw hc rfl rfl (zdq hd rfl) rfl rfl rfl h
  · replace h := zws h
    exact z_pox (L' := []) (K' := []) rfl rfl rfl rfl rfl rfl rfl h
set_option maxRecDepth 4000 in
theorem ok_L_cell_0_107_p {I : pI} {J : pJ} {a1 : Int32} {a2 : Int32} {Q : pQ} {d : Nat} (hd : 9 ≤ d) (h : zwp (f_L_cell a1 a2 1 (J 107) (I 32) (I 31 3) (J 31 2) (I 7 1) (I 11) (I 7 7) (I 7 0)) (fun w => match w with | (r, o0) => Q (.inl (some (.int r))) (zS 7 19 I [] J [(107, none, o0)]))) : pm_call M cost zext d 275 [.ref 0, .int a1, .int a2, .ref 107] (pm_st 108 (shp 7 19) I J) Q := by
  obtain ⟨d, rfl⟩ := zd1 hd rfl
  have hc := pm_call_m (M := M) (cost := cost) zext_m d
  refine z_in (L := []) (K := [(107, none, (J 107))]) (ls := [some (.ref 0), some (.int a1), some (.int a2), some (.ref 107), none]) zmt_275 zco_275 rfl rfl zid_n (zid_a zid_n) ?_
  delta f_L_cell at h
  refine g_aload_n (pc' := 1)  hc rfl rfl rfl rfl ?_
  refine g_iconst (pc' := 2) (v := (0 : Int32)) hc rfl zki_0 rfl ?_
  refine g_aload_n (pc' := 3)  hc rfl rfl rfl rfl ?_
  refine g_iload_n (pc' := 4)  hc rfl rfl rfl ?_
  refine g_iload_n (pc' := 5)  hc rfl rfl rfl ?_
  refine z_virt (as := [.int a1, .int a2]) (a := 0) (r := [.int (0 : Int32), .ref 107]) hc rfl rfl rfl rfl sh_0 rfl zco_102 rfl rfl rfl ?_
  refine ok_X11_cell_0_p (zdp hd rfl) (zwp_mono (zwp_bind h) ?_)
  rintro (r1 | E2) h
  · refine z_po (pc' := 8) (st' := [.int r1, .int (0 : Int32), .ref 107]) (v := (some (.int r1))) (L' := []) (K' := [(107, none, (J 107))]) zco_102 rfl rfl rfl rfl rfl rfl rfl rfl ?_
    refine g_i2l (pc' := 9)  hc rfl rfl ?_
    have hb := (zwp_bnd h).1
    replace h := (zwp_bnd h).2
    refine z_lastore (pc' := 10) (g := (J 107)) (K' := [(107, none, (vp_updL ((J 107)) (0 : Int32).toNatClampNeg r1.toInt64))]) hc rfl rfl sh_107 hb rfl rfl rfl rfl ?_
    refine g_goto hc rfl ?_
    refine g_iconst (pc' := 18) (v := (0 : Int32)) hc rfl zki_0 rfl ?_
    replace h := zws h
    exact g_ireturn hc rfl rfl rfl (fun _ => ⟨rfl, rfl⟩) h
  · by_cases hE : E2 = x_N
    · replace h := zwp_t h hE
      replace h := zws h
      exact z_poh (L' := []) (K' := [(107, none, (J 107))]) (zhd1 (e := 10) (pc := 5) rfl hE) rfl rfl rfl rfl rfl rfl rfl rfl h
    replace h := zwp_f h hE
    exact (zwn h).elim
set_option maxRecDepth 4000 in
theorem ok_X11_pay_0 {p q : Nat} {I : pI} {J : pJ} {a1 : Int32} {Q : pQ} {d : Nat} (hd : 2 ≤ d) (h : zwp (f_X11_pay a1 (I 31 1)) (fun o0 => Q (.inl none) (zS p q I [(31, some 1, fun _ => o0)] J []))) : pm_call M cost zext d 138 [.ref 0, .int a1] (pm_st 108 (shp p q) I J) Q := by
  obtain ⟨d, rfl⟩ := zd1 hd rfl
  have hc := pm_call_m (M := M) (cost := cost) zext_m d
  refine z_in (L := [(31, some 1, fun _ => (I 31 1))]) (K := []) (ls := [some (.ref 0), some (.int a1)]) zmt_138 zco_138 rfl rfl (zid_s zid_n) zid_n ?_
  delta f_X11_pay at h
  refine g_aload_n (pc' := 1)  hc rfl rfl rfl rfl ?_
  refine z_getR (pc' := 4)  hc rfl rfl rfl sh_0 rfl rfl ?_
  refine g_sipush (pc' := 7) (v := (9999 : Int32)) hc rfl zks_9999 rfl ?_
  refine g_aload_n (pc' := 8)  hc rfl rfl rfl rfl ?_
  refine z_getR (pc' := 11)  hc rfl rfl rfl sh_0 rfl rfl ?_
  refine z_getI (pc' := 14) (v := (I 31 1)) hc rfl rfl rfl sh_31 rfl rfl rfl ?_
  refine g_iload_n (pc' := 15)  hc rfl rfl rfl ?_
  refine g_iadd (pc' := 16)  hc rfl rfl ?_
  refine z_min (pc' := 19)  hc rfl rfl (zdq hd rfl) rfl rfl ?_
  refine z_putI (pc' := 22) (L' := [(31, some 1, fun _ => (if (((I 31 1)) + a1) < (9999 : Int32) then (((I 31 1)) + a1) else (9999 : Int32)))]) hc rfl rfl rfl sh_31 rfl zft_8_1 rfl (fun h => Bool.noConfusion h) rfl rfl rfl ?_
  replace h := zws h
  exact g_return hc rfl rfl (fun _ => ⟨rfl, rfl⟩) h
set_option maxRecDepth 4000 in
theorem ok_X11_stop_0_p {I : pI} {J : pJ} {a1 : Int32} {a2 : Int32} {Q : pQ} {d : Nat} (hd : 8 ≤ d) (h : zwp (f_X11_stop a1 a2 (I 36 2) (I 36 1) (I 37) (I 32) (I 34) (I 31 0) (I 31 1) (I 33) (J 31 2) (I 7 12) (I 7 3) (I 12) (I 7 9) (I 6)) (fun w => match w with | (.inl r, o0, o1, o2, o3, o4, o5) => Q (.inl (some (.int r))) (zS 7 19 I [(6, none, o5), (31, some 1, fun _ => o4), (34, none, o3), (36, some 1, fun _ => o1), (36, some 2, fun _ => o0), (37, none, o2)] J []) | (.inr E, o0, o1, o2, o3, o4, o5) => Q (.inr E) (zS 7 19 I [(6, none, o5), (31, some 1, fun _ => o4), (34, none, o3), (36, some 1, fun _ => o1), (36, some 2, fun _ => o0), (37, none, o2)] J []))) : pm_call M cost zext d 104 [.ref 0, .int a1, .int a2] (pm_st 108 (shp 7 19) I J) Q := by
  obtain ⟨d, rfl⟩ := zd1 hd rfl
  have hc := pm_call_m (M := M) (cost := cost) zext_m d
  refine z_in (L := [(6, none, (I 6)), (31, some 1, fun _ => (I 31 1)), (34, none, (I 34)), (36, some 1, fun _ => (I 36 1)), (36, some 2, fun _ => (I 36 2)), (37, none, (I 37))]) (K := []) (ls := [some (.ref 0), some (.int a1), some (.int a2)]) zmt_104 zco_104 rfl rfl (zid_a (zid_s (zid_a (zid_s (zid_s (zid_a zid_n)))))) zid_n ?_
  delta f_X11_stop at h
  refine g_aload_n (pc' := 1)  hc rfl rfl rfl rfl ?_
  refine g_iload_n (pc' := 2)  hc rfl rfl rfl ?_
  refine z_virt (as := [.int a1]) (a := 0) (r := []) hc rfl rfl rfl rfl sh_0 rfl zco_133 rfl rfl rfl ?_
  refine ok_X11_checkFigure_0_p (zdp hd rfl) (zwp_mono (zwp_bind h) ?_)
  rintro (⟨⟩ | E1) h
  · refine z_po (pc' := 5) (st' := []) (v := none) (L' := [(6, none, (I 6)), (31, some 1, fun _ => (I 31 1)), (34, none, (I 34)), (36, some 1, fun _ => (I 36 1)), (36, some 2, fun _ => (I 36 2)), (37, none, (I 37))]) (K' := []) zco_133 rfl rfl rfl rfl rfl rfl rfl rfl ?_
    refine g_aload_n (pc' := 6)  hc rfl rfl rfl rfl ?_
    refine z_getR (pc' := 9)  hc rfl rfl rfl sh_0 rfl rfl ?_
    refine g_aload_n (pc' := 10)  hc rfl rfl rfl rfl ?_
    refine z_getR (pc' := 13)  hc rfl rfl rfl sh_0 rfl rfl ?_
    refine z_getI (pc' := 16) (v := (I 31 0)) hc rfl rfl rfl sh_31 rfl rfl rfl ?_
    refine z_virt (as := [.int (I 31 0)]) (a := 7) (r := []) hc rfl rfl rfl rfl sh_7 rfl zco_23 rfl rfl rfl ?_
    refine ok_X3_isDull_7 (zdp hd rfl) (zwp_mono (zwp_bind h) ?_)
    rintro r2 h
    refine z_po (pc' := 19) (st' := [.int r2]) (v := (some (.int r2))) (L' := [(6, none, (I 6)), (31, some 1, fun _ => (I 31 1)), (34, none, (I 34)), (36, some 1, fun _ => (I 36 1)), (36, some 2, fun _ => (I 36 2)), (37, none, (I 37))]) (K' := []) zco_23 rfl rfl rfl rfl rfl rfl rfl rfl ?_
    refine g_if_ne (pc' := 22) hc rfl rfl (fun hx => ?_) (fun hx => ?_)
    · replace h := zwp_f h hx
      refine g_aload_n (pc' := 34)  hc rfl rfl rfl rfl ?_
      refine z_virt (as := []) (a := 0) (r := []) hc rfl rfl rfl rfl sh_0 rfl zco_137 rfl rfl rfl ?_
      refine ok_X11_refuseAct_0 (zdp hd rfl) (zwp_mono (zwp_bind h) ?_)
      rintro ⟨r4, o3⟩ h
      refine z_po (pc' := 37) (st' := [.int r4]) (v := (some (.int r4))) (L' := [(6, none, o3), (31, some 1, fun _ => (I 31 1)), (34, none, (I 34)), (36, some 1, fun _ => (I 36 1)), (36, some 2, fun _ => (I 36 2)), (37, none, (I 37))]) (K' := []) zco_137 rfl rfl rfl rfl rfl rfl rfl rfl ?_
      replace h := zws h
      exact g_ireturn hc rfl rfl rfl (fun _ => ⟨rfl, rfl⟩) h
    · replace h := zwp_t h hx
      refine g_iload_n (pc' := 23)  hc rfl rfl rfl ?_
      refine g_iconst (pc' := 24) (v := (1 : Int32)) hc rfl zki_1 rfl ?_
      refine g_icmp_lt (pc' := 27) hc rfl rfl (fun hx => ?_) (fun hx => ?_)
      · replace h := zwp_t h hx
        refine g_aload_n (pc' := 34)  hc rfl rfl rfl rfl ?_
        refine z_virt (as := []) (a := 0) (r := []) hc rfl rfl rfl rfl sh_0 rfl zco_137 rfl rfl rfl ?_
        refine ok_X11_refuseAct_0 (zdp hd rfl) (zwp_mono (zwp_bind h) ?_)
        rintro ⟨r6, o5⟩ h
        refine z_po (pc' := 37) (st' := [.int r6]) (v := (some (.int r6))) (L' := [(6, none, o5), (31, some 1, fun _ => (I 31 1)), (34, none, (I 34)), (36, some 1, fun _ => (I 36 1)), (36, some 2, fun _ => (I 36 2)), (37, none, (I 37))]) (K' := []) zco_137 rfl rfl rfl rfl rfl rfl rfl rfl ?_
        replace h := zws h
        exact g_ireturn hc rfl rfl rfl (fun _ => ⟨rfl, rfl⟩) h
      · replace h := zwp_f h hx
        refine g_iload_n (pc' := 28)  hc rfl rfl rfl ?_
        refine g_bipush (pc' := 30) (v := (9 : Int32)) hc rfl zkb_9 rfl ?_
        refine g_icmp_le (pc' := 33) hc rfl rfl (fun hx => ?_) (fun hx => ?_)
        · replace h := zwp_t h hx
          refine g_aload_n (pc' := 39)  hc rfl rfl rfl rfl ?_
          refine z_getR (pc' := 42)  hc rfl rfl rfl sh_0 rfl rfl ?_
          refine g_aload_n (pc' := 43)  hc rfl rfl rfl rfl ?_
          refine z_getR (pc' := 46)  hc rfl rfl rfl sh_0 rfl rfl ?_
          refine z_virt (as := [.ref 31]) (a := 36) (r := []) hc rfl rfl rfl rfl sh_36 rfl zco_3 rfl rfl rfl ?_
          refine ok_X0_keep_36_31 (zdp hd rfl) (zwp_mono (zwp_bind h) ?_)
          rintro ⟨o7, o8, o9⟩ h
          refine z_po (pc' := 49) (st' := []) (v := none) (L' := [(6, none, (I 6)), (31, some 1, fun _ => (I 31 1)), (34, none, (I 34)), (36, some 1, fun _ => o8), (36, some 2, fun _ => o7), (37, none, o9)]) (K' := []) zco_3 rfl rfl rfl rfl rfl rfl rfl rfl ?_
          refine g_aload_n (pc' := 50)  hc rfl rfl rfl rfl ?_
          refine z_getR (pc' := 53)  hc rfl rfl rfl sh_0 rfl rfl ?_
          refine z_getR (pc' := 56)  hc rfl rfl rfl sh_31 rfl rfl ?_
          refine g_iload_n (pc' := 57)  hc rfl rfl rfl ?_
          refine g_iload_n (pc' := 58)  hc rfl rfl rfl ?_
          have hb := (zwp_bnd h).1
          replace h := (zwp_bnd h).2
          refine z_iastore (pc' := 59) (g := (I 34)) (L' := [(6, none, (I 6)), (31, some 1, fun _ => (I 31 1)), (34, none, (upd ((I 34)) a1.toNatClampNeg a2)), (36, some 1, fun _ => o8), (36, some 2, fun _ => o7), (37, none, o9)]) hc rfl rfl sh_34 hb rfl rfl rfl rfl ?_
          refine g_aload_n (pc' := 60)  hc rfl rfl rfl rfl ?_
          refine g_iconst (pc' := 61) (v := (1 : Int32)) hc rfl zki_1 rfl ?_
          refine z_virt (as := [.int (1 : Int32)]) (a := 0) (r := []) hc rfl rfl rfl rfl sh_0 rfl zco_138 rfl rfl rfl ?_
          refine ok_X11_pay_0 (zdp hd rfl) (zwp_mono (zwp_bind h) ?_)
          rintro o10 h
          refine z_po (pc' := 64) (st' := []) (v := none) (L' := [(6, none, (I 6)), (31, some 1, fun _ => o10), (34, none, (upd ((I 34)) a1.toNatClampNeg a2)), (36, some 1, fun _ => o8), (36, some 2, fun _ => o7), (37, none, o9)]) (K' := []) zco_138 rfl rfl rfl rfl rfl rfl rfl rfl ?_
          refine g_aload_n (pc' := 65)  hc rfl rfl rfl rfl ?_
          refine z_getR (pc' := 68)  hc rfl rfl rfl sh_0 rfl rfl ?_
          refine z_getI (pc' := 71) (v := o10) hc rfl rfl rfl sh_31 rfl rfl rfl ?_
          replace h := zws h
          exact g_ireturn hc rfl rfl rfl (fun _ => ⟨rfl, rfl⟩) h
        · replace h := zwp_f h hx
          refine g_aload_n (pc' := 34)  hc rfl rfl rfl rfl ?_
          refine z_virt (as := []) (a := 0) (r := []) hc rfl rfl rfl rfl sh_0 rfl zco_137 rfl rfl rfl ?_
          refine ok_X11_refuseAct_0 (zdp hd rfl) (zwp_mono (zwp_bind h) ?_)
          rintro ⟨r12, o11⟩ h
          refine z_po (pc' := 37) (st' := [.int r12]) (v := (some (.int r12))) (L' := [(6, none, o11), (31, some 1, fun _ => (I 31 1)), (34, none, (I 34)), (36, some 1, fun _ => (I 36 1)), (36, some 2, fun _ => (I 36 2)), (37, none, (I 37))]) (K' := []) zco_137 rfl rfl rfl rfl rfl rfl rfl rfl ?_
          replace h := zws h
          exact g_ireturn hc rfl rfl rfl (fun _ => ⟨rfl, rfl⟩) h
  · replace h := zws h
    exact z_pox (L' := [(6, none, (I 6)), (31, some 1, fun _ => (I 31 1)), (34, none, (I 34)), (36, some 1, fun _ => (I 36 1)), (36, some 2, fun _ => (I 36 2)), (37, none, (I 37))]) (K' := []) rfl rfl rfl rfl rfl rfl rfl h
set_option maxRecDepth 4000 in
theorem ok_L_stop_0_107_p {I : pI} {J : pJ} {a1 : Int32} {a2 : Int32} {Q : pQ} {d : Nat} (hd : 9 ≤ d) (h : zwp (f_L_stop a1 a2 1 (J 107) (I 36 2) (I 36 1) (I 37) (I 32) (I 34) (I 31 0) (I 31 1) (I 33) (J 31 2) (I 7 12) (I 7 3) (I 12) (I 7 9) (I 6)) (fun w => match w with | (r, o0, o1, o2, o3, o4, o5, o6) => Q (.inl (some (.int r))) (zS 7 19 I [(6, none, o6), (31, some 1, fun _ => o5), (34, none, o4), (36, some 1, fun _ => o2), (36, some 2, fun _ => o1), (37, none, o3)] J [(107, none, o0)]))) : pm_call M cost zext d 276 [.ref 0, .int a1, .int a2, .ref 107] (pm_st 108 (shp 7 19) I J) Q := by
  obtain ⟨d, rfl⟩ := zd1 hd rfl
  have hc := pm_call_m (M := M) (cost := cost) zext_m d
  refine z_in (L := [(6, none, (I 6)), (31, some 1, fun _ => (I 31 1)), (34, none, (I 34)), (36, some 1, fun _ => (I 36 1)), (36, some 2, fun _ => (I 36 2)), (37, none, (I 37))]) (K := [(107, none, (J 107))]) (ls := [some (.ref 0), some (.int a1), some (.int a2), some (.ref 107), none]) zmt_276 zco_276 rfl rfl (zid_a (zid_s (zid_a (zid_s (zid_s (zid_a zid_n)))))) (zid_a zid_n) ?_
  delta f_L_stop at h
  refine g_aload_n (pc' := 1)  hc rfl rfl rfl rfl ?_
  refine g_iconst (pc' := 2) (v := (0 : Int32)) hc rfl zki_0 rfl ?_
  refine g_aload_n (pc' := 3)  hc rfl rfl rfl rfl ?_
  refine g_iload_n (pc' := 4)  hc rfl rfl rfl ?_
  refine g_iload_n (pc' := 5)  hc rfl rfl rfl ?_
  refine z_virt (as := [.int a1, .int a2]) (a := 0) (r := [.int (0 : Int32), .ref 107]) hc rfl rfl rfl rfl sh_0 rfl zco_104 rfl rfl rfl ?_
  refine ok_X11_stop_0_p (zdp hd rfl) (zwp_mono (zwp_bind h) ?_)
  rintro ⟨(r7 | E8), o1, o2, o3, o4, o5, o6⟩ h
  · refine z_po (pc' := 8) (st' := [.int r7, .int (0 : Int32), .ref 107]) (v := (some (.int r7))) (L' := [(6, none, o6), (31, some 1, fun _ => o5), (34, none, o4), (36, some 1, fun _ => o2), (36, some 2, fun _ => o1), (37, none, o3)]) (K' := [(107, none, (J 107))]) zco_104 rfl rfl rfl rfl rfl rfl rfl rfl ?_
    refine g_i2l (pc' := 9)  hc rfl rfl ?_
    have hb := (zwp_bnd h).1
    replace h := (zwp_bnd h).2
    refine z_lastore (pc' := 10) (g := (J 107)) (K' := [(107, none, (vp_updL ((J 107)) (0 : Int32).toNatClampNeg r7.toInt64))]) hc rfl rfl sh_107 hb rfl rfl rfl rfl ?_
    refine g_goto hc rfl ?_
    refine g_iconst (pc' := 18) (v := (0 : Int32)) hc rfl zki_0 rfl ?_
    replace h := zws h
    exact g_ireturn hc rfl rfl rfl (fun _ => ⟨rfl, rfl⟩) h
  · by_cases hE : E8 = x_N
    · replace h := zwp_t h hE
      replace h := zws h
      exact z_poh (L' := [(6, none, o6), (31, some 1, fun _ => o5), (34, none, o4), (36, some 1, fun _ => o2), (36, some 2, fun _ => o1), (37, none, o3)]) (K' := [(107, none, (J 107))]) (zhd1 (e := 10) (pc := 5) rfl hE) rfl rfl rfl rfl rfl rfl rfl rfl h
    replace h := zwp_f h hE
    exact (zwn h).elim
set_option maxRecDepth 4000 in
theorem ok_X11_lift_0_p {I : pI} {J : pJ} {a1 : Int32} {a2 : Int32} {Q : pQ} {d : Nat} (hd : 8 ≤ d) (h : zwp (f_X11_lift a1 a2 (I 36 2) (I 36 1) (I 37) (I 32) (I 34) (I 31 0) (I 31 1) (I 33) (J 31 2) (I 7 12) (I 7 3) (I 7 1) (I 12) (I 7 9) (I 7 0) (I 6)) (fun w => match w with | (.inl r, o0, o1, o2, o3, o4, o5, o6) => Q (.inl (some (.int r))) (zS 7 19 I [(6, none, o6), (31, some 1, fun _ => o5), (32, none, o3), (34, none, o4), (36, some 1, fun _ => o1), (36, some 2, fun _ => o0), (37, none, o2)] J []) | (.inr E, o0, o1, o2, o3, o4, o5, o6) => Q (.inr E) (zS 7 19 I [(6, none, o6), (31, some 1, fun _ => o5), (32, none, o3), (34, none, o4), (36, some 1, fun _ => o1), (36, some 2, fun _ => o0), (37, none, o2)] J []))) : pm_call M cost zext d 105 [.ref 0, .int a1, .int a2] (pm_st 108 (shp 7 19) I J) Q := by
  obtain ⟨d, rfl⟩ := zd1 hd rfl
  have hc := pm_call_m (M := M) (cost := cost) zext_m d
  refine z_in (L := [(6, none, (I 6)), (31, some 1, fun _ => (I 31 1)), (32, none, (I 32)), (34, none, (I 34)), (36, some 1, fun _ => (I 36 1)), (36, some 2, fun _ => (I 36 2)), (37, none, (I 37))]) (K := []) (ls := [some (.ref 0), some (.int a1), some (.int a2), none]) zmt_105 zco_105 rfl rfl (zid_a (zid_s (zid_a (zid_a (zid_s (zid_s (zid_a zid_n))))))) zid_n ?_
  delta f_X11_lift at h
  refine g_aload_n (pc' := 1)  hc rfl rfl rfl rfl ?_
  refine g_iload_n (pc' := 2)  hc rfl rfl rfl ?_
  refine z_virt (as := [.int a1]) (a := 0) (r := []) hc rfl rfl rfl rfl sh_0 rfl zco_133 rfl rfl rfl ?_
  refine ok_X11_checkFigure_0_p (zdp hd rfl) (zwp_mono (zwp_bind h) ?_)
  rintro (⟨⟩ | E1) h
  · refine z_po (pc' := 5) (st' := []) (v := none) (L' := [(6, none, (I 6)), (31, some 1, fun _ => (I 31 1)), (32, none, (I 32)), (34, none, (I 34)), (36, some 1, fun _ => (I 36 1)), (36, some 2, fun _ => (I 36 2)), (37, none, (I 37))]) (K' := []) zco_133 rfl rfl rfl rfl rfl rfl rfl rfl ?_
    refine g_aload_n (pc' := 6)  hc rfl rfl rfl rfl ?_
    refine g_iload_n (pc' := 7)  hc rfl rfl rfl ?_
    refine z_virt (as := [.int a2]) (a := 0) (r := []) hc rfl rfl rfl rfl sh_0 rfl zco_134 rfl rfl rfl ?_
    refine ok_X11_checkCell_0_p (zdp hd rfl) (zwp_mono (zwp_bind h) ?_)
    rintro (⟨⟩ | E2) h
    · refine z_po (pc' := 10) (st' := []) (v := none) (L' := [(6, none, (I 6)), (31, some 1, fun _ => (I 31 1)), (32, none, (I 32)), (34, none, (I 34)), (36, some 1, fun _ => (I 36 1)), (36, some 2, fun _ => (I 36 2)), (37, none, (I 37))]) (K' := []) zco_134 rfl rfl rfl rfl rfl rfl rfl rfl ?_
      refine g_aload_n (pc' := 11)  hc rfl rfl rfl rfl ?_
      refine z_getR (pc' := 14)  hc rfl rfl rfl sh_0 rfl rfl ?_
      refine z_getR (pc' := 17)  hc rfl rfl rfl sh_31 rfl rfl ?_
      refine g_iload_n (pc' := 18)  hc rfl rfl rfl ?_
      have hb := (zwp_bnd h).1
      replace h := (zwp_bnd h).2
      refine z_iaload (pc' := 19) (v := (((I 32)) a1.toNatClampNeg)) hc rfl rfl sh_32 hb rfl rfl ?_
      refine g_istore_n (pc' := 20) (ls1 := [some (.ref 0), some (.int a1), some (.int a2), some (.int (((I 32)) a1.toNatClampNeg))]) hc rfl (zlt rfl) rfl rfl ?_
      refine g_aload_n (pc' := 21)  hc rfl rfl rfl rfl ?_
      refine z_getR (pc' := 24)  hc rfl rfl rfl sh_0 rfl rfl ?_
      refine g_aload_n (pc' := 25)  hc rfl rfl rfl rfl ?_
      refine z_getR (pc' := 28)  hc rfl rfl rfl sh_0 rfl rfl ?_
      refine z_getI (pc' := 31) (v := (I 31 0)) hc rfl rfl rfl sh_31 rfl rfl rfl ?_
      refine z_virt (as := [.int (I 31 0)]) (a := 7) (r := []) hc rfl rfl rfl rfl sh_7 rfl zco_23 rfl rfl rfl ?_
      refine ok_X3_isDull_7 (zdp hd rfl) (zwp_mono (zwp_bind h) ?_)
      rintro r3 h
      refine z_po (pc' := 34) (st' := [.int r3]) (v := (some (.int r3))) (L' := [(6, none, (I 6)), (31, some 1, fun _ => (I 31 1)), (32, none, (I 32)), (34, none, (I 34)), (36, some 1, fun _ => (I 36 1)), (36, some 2, fun _ => (I 36 2)), (37, none, (I 37))]) (K' := []) zco_23 rfl rfl rfl rfl rfl rfl rfl rfl ?_
      refine g_if_ne (pc' := 37) hc rfl rfl (fun hx => ?_) (fun hx => ?_)
      · replace h := zwp_f h hx
        refine g_aload_n (pc' := 54)  hc rfl rfl rfl rfl ?_
        refine z_virt (as := []) (a := 0) (r := []) hc rfl rfl rfl rfl sh_0 rfl zco_137 rfl rfl rfl ?_
        refine ok_X11_refuseAct_0 (zdp hd rfl) (zwp_mono (zwp_bind h) ?_)
        rintro ⟨r5, o4⟩ h
        refine z_po (pc' := 57) (st' := [.int r5]) (v := (some (.int r5))) (L' := [(6, none, o4), (31, some 1, fun _ => (I 31 1)), (32, none, (I 32)), (34, none, (I 34)), (36, some 1, fun _ => (I 36 1)), (36, some 2, fun _ => (I 36 2)), (37, none, (I 37))]) (K' := []) zco_137 rfl rfl rfl rfl rfl rfl rfl rfl ?_
        replace h := zws h
        exact g_ireturn hc rfl rfl rfl (fun _ => ⟨rfl, rfl⟩) h
      · replace h := zwp_t h hx
        refine g_iload_n (pc' := 38)  hc rfl rfl rfl ?_
        refine g_iload_n (pc' := 39)  hc rfl rfl rfl ?_
        refine g_icmp_eq (pc' := 42) hc rfl rfl (fun hx => ?_) (fun hx => ?_)
        · replace h := zwp_t h hx
          refine g_aload_n (pc' := 54)  hc rfl rfl rfl rfl ?_
          refine z_virt (as := []) (a := 0) (r := []) hc rfl rfl rfl rfl sh_0 rfl zco_137 rfl rfl rfl ?_
          refine ok_X11_refuseAct_0 (zdp hd rfl) (zwp_mono (zwp_bind h) ?_)
          rintro ⟨r7, o6⟩ h
          refine z_po (pc' := 57) (st' := [.int r7]) (v := (some (.int r7))) (L' := [(6, none, o6), (31, some 1, fun _ => (I 31 1)), (32, none, (I 32)), (34, none, (I 34)), (36, some 1, fun _ => (I 36 1)), (36, some 2, fun _ => (I 36 2)), (37, none, (I 37))]) (K' := []) zco_137 rfl rfl rfl rfl rfl rfl rfl rfl ?_
          replace h := zws h
          exact g_ireturn hc rfl rfl rfl (fun _ => ⟨rfl, rfl⟩) h
        · replace h := zwp_f h hx
          refine g_aload_n (pc' := 43)  hc rfl rfl rfl rfl ?_
          refine z_getR (pc' := 46)  hc rfl rfl rfl sh_0 rfl rfl ?_
          refine g_iload_n (pc' := 47)  hc rfl rfl rfl ?_
          refine z_virt (as := [.int a2]) (a := 31) (r := []) hc rfl rfl rfl rfl sh_31 rfl zco_71 rfl rfl rfl ?_
          refine ok_X8_isWall_31 (zdp hd rfl) (zwp_mono (zwp_bind h) ?_)
          rintro r8 h
          refine z_po (pc' := 50) (st' := [.int r8]) (v := (some (.int r8))) (L' := [(6, none, (I 6)), (31, some 1, fun _ => (I 31 1)), (32, none, (I 32)), (34, none, (I 34)), (36, some 1, fun _ => (I 36 1)), (36, some 2, fun _ => (I 36 2)), (37, none, (I 37))]) (K' := []) zco_71 rfl rfl rfl rfl rfl rfl rfl rfl ?_
          refine g_if_eq (pc' := 53) hc rfl rfl (fun hx => ?_) (fun hx => ?_)
          · replace h := zwp_t h hx
            refine g_aload_n (pc' := 59)  hc rfl rfl rfl rfl ?_
            refine z_getR (pc' := 62)  hc rfl rfl rfl sh_0 rfl rfl ?_
            refine g_aload_n (pc' := 63)  hc rfl rfl rfl rfl ?_
            refine z_getR (pc' := 66)  hc rfl rfl rfl sh_0 rfl rfl ?_
            refine z_virt (as := [.ref 31]) (a := 36) (r := []) hc rfl rfl rfl rfl sh_36 rfl zco_3 rfl rfl rfl ?_
            refine ok_X0_keep_36_31 (zdp hd rfl) (zwp_mono (zwp_bind h) ?_)
            rintro ⟨o9, o10, o11⟩ h
            refine z_po (pc' := 69) (st' := []) (v := none) (L' := [(6, none, (I 6)), (31, some 1, fun _ => (I 31 1)), (32, none, (I 32)), (34, none, (I 34)), (36, some 1, fun _ => o10), (36, some 2, fun _ => o9), (37, none, o11)]) (K' := []) zco_3 rfl rfl rfl rfl rfl rfl rfl rfl ?_
            refine g_aload_n (pc' := 70)  hc rfl rfl rfl rfl ?_
            refine z_getR (pc' := 73)  hc rfl rfl rfl sh_0 rfl rfl ?_
            refine z_getR (pc' := 76)  hc rfl rfl rfl sh_31 rfl rfl ?_
            refine g_iload_n (pc' := 77)  hc rfl rfl rfl ?_
            refine g_iload_n (pc' := 78)  hc rfl rfl rfl ?_
            have hb := (zwp_bnd h).1
            replace h := (zwp_bnd h).2
            refine z_iastore (pc' := 79) (g := (I 32)) (L' := [(6, none, (I 6)), (31, some 1, fun _ => (I 31 1)), (32, none, (upd ((I 32)) a1.toNatClampNeg a2)), (34, none, (I 34)), (36, some 1, fun _ => o10), (36, some 2, fun _ => o9), (37, none, o11)]) hc rfl rfl sh_32 hb rfl rfl rfl rfl ?_
            refine g_aload_n (pc' := 80)  hc rfl rfl rfl rfl ?_
            refine z_getR (pc' := 83)  hc rfl rfl rfl sh_0 rfl rfl ?_
            refine z_getR (pc' := 86)  hc rfl rfl rfl sh_31 rfl rfl ?_
            refine g_iload_n (pc' := 87)  hc rfl rfl rfl ?_
            refine g_iconst (pc' := 88) (v := (0 : Int32)) hc rfl zki_0 rfl ?_
            have hb := (zwp_bnd h).1
            replace h := (zwp_bnd h).2
            refine z_iastore (pc' := 89) (g := (I 34)) (L' := [(6, none, (I 6)), (31, some 1, fun _ => (I 31 1)), (32, none, (upd ((I 32)) a1.toNatClampNeg a2)), (34, none, (upd ((I 34)) a1.toNatClampNeg (0 : Int32))), (36, some 1, fun _ => o10), (36, some 2, fun _ => o9), (37, none, o11)]) hc rfl rfl sh_34 hb rfl rfl rfl rfl ?_
            refine g_aload_n (pc' := 90)  hc rfl rfl rfl rfl ?_
            refine g_iconst (pc' := 91) (v := (3 : Int32)) hc rfl zki_3 rfl ?_
            refine z_virt (as := [.int (3 : Int32)]) (a := 0) (r := []) hc rfl rfl rfl rfl sh_0 rfl zco_138 rfl rfl rfl ?_
            refine ok_X11_pay_0 (zdp hd rfl) (zwp_mono (zwp_bind h) ?_)
            rintro o12 h
            refine z_po (pc' := 94) (st' := []) (v := none) (L' := [(6, none, (I 6)), (31, some 1, fun _ => o12), (32, none, (upd ((I 32)) a1.toNatClampNeg a2)), (34, none, (upd ((I 34)) a1.toNatClampNeg (0 : Int32))), (36, some 1, fun _ => o10), (36, some 2, fun _ => o9), (37, none, o11)]) (K' := []) zco_138 rfl rfl rfl rfl rfl rfl rfl rfl ?_
            refine g_iload_n (pc' := 95)  hc rfl rfl rfl ?_
            replace h := zws h
            exact g_ireturn hc rfl rfl rfl (fun _ => ⟨rfl, rfl⟩) h
          · replace h := zwp_f h hx
            refine g_aload_n (pc' := 54)  hc rfl rfl rfl rfl ?_
            refine z_virt (as := []) (a := 0) (r := []) hc rfl rfl rfl rfl sh_0 rfl zco_137 rfl rfl rfl ?_
            refine ok_X11_refuseAct_0 (zdp hd rfl) (zwp_mono (zwp_bind h) ?_)
            rintro ⟨r14, o13⟩ h
            refine z_po (pc' := 57) (st' := [.int r14]) (v := (some (.int r14))) (L' := [(6, none, o13), (31, some 1, fun _ => (I 31 1)), (32, none, (I 32)), (34, none, (I 34)), (36, some 1, fun _ => (I 36 1)), (36, some 2, fun _ => (I 36 2)), (37, none, (I 37))]) (K' := []) zco_137 rfl rfl rfl rfl rfl rfl rfl rfl ?_
            replace h := zws h
            exact g_ireturn hc rfl rfl rfl (fun _ => ⟨rfl, rfl⟩) h
    · replace h := zws h
      exact z_pox (L' := [(6, none, (I 6)), (31, some 1, fun _ => (I 31 1)), (32, none, (I 32)), (34, none, (I 34)), (36, some 1, fun _ => (I 36 1)), (36, some 2, fun _ => (I 36 2)), (37, none, (I 37))]) (K' := []) rfl rfl rfl rfl rfl rfl rfl h
  · replace h := zws h
    exact z_pox (L' := [(6, none, (I 6)), (31, some 1, fun _ => (I 31 1)), (32, none, (I 32)), (34, none, (I 34)), (36, some 1, fun _ => (I 36 1)), (36, some 2, fun _ => (I 36 2)), (37, none, (I 37))]) (K' := []) rfl rfl rfl rfl rfl rfl rfl h
set_option maxRecDepth 4000 in
theorem ok_L_lift_0_107_p {I : pI} {J : pJ} {a1 : Int32} {a2 : Int32} {Q : pQ} {d : Nat} (hd : 9 ≤ d) (h : zwp (f_L_lift a1 a2 1 (J 107) (I 36 2) (I 36 1) (I 37) (I 32) (I 34) (I 31 0) (I 31 1) (I 33) (J 31 2) (I 7 12) (I 7 3) (I 7 1) (I 12) (I 7 9) (I 7 0) (I 6)) (fun w => match w with | (r, o0, o1, o2, o3, o4, o5, o6, o7) => Q (.inl (some (.int r))) (zS 7 19 I [(6, none, o7), (31, some 1, fun _ => o6), (32, none, o4), (34, none, o5), (36, some 1, fun _ => o2), (36, some 2, fun _ => o1), (37, none, o3)] J [(107, none, o0)]))) : pm_call M cost zext d 277 [.ref 0, .int a1, .int a2, .ref 107] (pm_st 108 (shp 7 19) I J) Q := by
  obtain ⟨d, rfl⟩ := zd1 hd rfl
  have hc := pm_call_m (M := M) (cost := cost) zext_m d
  refine z_in (L := [(6, none, (I 6)), (31, some 1, fun _ => (I 31 1)), (32, none, (I 32)), (34, none, (I 34)), (36, some 1, fun _ => (I 36 1)), (36, some 2, fun _ => (I 36 2)), (37, none, (I 37))]) (K := [(107, none, (J 107))]) (ls := [some (.ref 0), some (.int a1), some (.int a2), some (.ref 107), none]) zmt_277 zco_277 rfl rfl (zid_a (zid_s (zid_a (zid_a (zid_s (zid_s (zid_a zid_n))))))) (zid_a zid_n) ?_
  delta f_L_lift at h
  refine g_aload_n (pc' := 1)  hc rfl rfl rfl rfl ?_
  refine g_iconst (pc' := 2) (v := (0 : Int32)) hc rfl zki_0 rfl ?_
  refine g_aload_n (pc' := 3)  hc rfl rfl rfl rfl ?_
  refine g_iload_n (pc' := 4)  hc rfl rfl rfl ?_
  refine g_iload_n (pc' := 5)  hc rfl rfl rfl ?_
  refine z_virt (as := [.int a1, .int a2]) (a := 0) (r := [.int (0 : Int32), .ref 107]) hc rfl rfl rfl rfl sh_0 rfl zco_105 rfl rfl rfl ?_
  refine ok_X11_lift_0_p (zdp hd rfl) (zwp_mono (zwp_bind h) ?_)
  rintro ⟨(r8 | E9), o1, o2, o3, o4, o5, o6, o7⟩ h
  · refine z_po (pc' := 8) (st' := [.int r8, .int (0 : Int32), .ref 107]) (v := (some (.int r8))) (L' := [(6, none, o7), (31, some 1, fun _ => o6), (32, none, o4), (34, none, o5), (36, some 1, fun _ => o2), (36, some 2, fun _ => o1), (37, none, o3)]) (K' := [(107, none, (J 107))]) zco_105 rfl rfl rfl rfl rfl rfl rfl rfl ?_
    refine g_i2l (pc' := 9)  hc rfl rfl ?_
    have hb := (zwp_bnd h).1
    replace h := (zwp_bnd h).2
    refine z_lastore (pc' := 10) (g := (J 107)) (K' := [(107, none, (vp_updL ((J 107)) (0 : Int32).toNatClampNeg r8.toInt64))]) hc rfl rfl sh_107 hb rfl rfl rfl rfl ?_
    refine g_goto hc rfl ?_
    refine g_iconst (pc' := 18) (v := (0 : Int32)) hc rfl zki_0 rfl ?_
    replace h := zws h
    exact g_ireturn hc rfl rfl rfl (fun _ => ⟨rfl, rfl⟩) h
  · by_cases hE : E9 = x_N
    · replace h := zwp_t h hE
      replace h := zws h
      exact z_poh (L' := [(6, none, o7), (31, some 1, fun _ => o6), (32, none, o4), (34, none, o5), (36, some 1, fun _ => o2), (36, some 2, fun _ => o1), (37, none, o3)]) (K' := [(107, none, (J 107))]) (zhd1 (e := 10) (pc := 5) rfl hE) rfl rfl rfl rfl rfl rfl rfl rfl h
    replace h := zwp_f h hE
    exact (zwn h).elim
set_option maxRecDepth 4000 in
theorem ok_X11_brush_0_p {I : pI} {J : pJ} {a1 : Int32} {Q : pQ} {d : Nat} (hd : 8 ≤ d) (h : zwp (f_X11_brush a1 (I 36 2) (I 36 1) (I 37) (I 32) (I 34) (I 31 0) (I 31 1) (I 33) (J 31 2) (I 7 3) (I 6)) (fun w => match w with | (.inl r, o0, o1, o2, o3, o4) => Q (.inl (some (.int r))) (zS 7 19 I [(6, none, o4), (33, none, o3), (36, some 1, fun _ => o1), (36, some 2, fun _ => o0), (37, none, o2)] J []) | (.inr E, o0, o1, o2, o3, o4) => Q (.inr E) (zS 7 19 I [(6, none, o4), (33, none, o3), (36, some 1, fun _ => o1), (36, some 2, fun _ => o0), (37, none, o2)] J []))) : pm_call M cost zext d 106 [.ref 0, .int a1] (pm_st 108 (shp 7 19) I J) Q := by
  obtain ⟨d, rfl⟩ := zd1 hd rfl
  have hc := pm_call_m (M := M) (cost := cost) zext_m d
  refine z_in (L := [(6, none, (I 6)), (33, none, (I 33)), (36, some 1, fun _ => (I 36 1)), (36, some 2, fun _ => (I 36 2)), (37, none, (I 37))]) (K := []) (ls := [some (.ref 0), some (.int a1), none]) zmt_106 zco_106 rfl rfl (zid_a (zid_a (zid_s (zid_s (zid_a zid_n))))) zid_n ?_
  delta f_X11_brush at h
  refine g_aload_n (pc' := 1)  hc rfl rfl rfl rfl ?_
  refine g_iload_n (pc' := 2)  hc rfl rfl rfl ?_
  refine z_virt (as := [.int a1]) (a := 0) (r := []) hc rfl rfl rfl rfl sh_0 rfl zco_133 rfl rfl rfl ?_
  refine ok_X11_checkFigure_0_p (zdp hd rfl) (zwp_mono (zwp_bind h) ?_)
  rintro (⟨⟩ | E1) h
  · refine z_po (pc' := 5) (st' := []) (v := none) (L' := [(6, none, (I 6)), (33, none, (I 33)), (36, some 1, fun _ => (I 36 1)), (36, some 2, fun _ => (I 36 2)), (37, none, (I 37))]) (K' := []) zco_133 rfl rfl rfl rfl rfl rfl rfl rfl ?_
    refine g_aload_n (pc' := 6)  hc rfl rfl rfl rfl ?_
    refine z_getR (pc' := 9)  hc rfl rfl rfl sh_0 rfl rfl ?_
    refine z_getR (pc' := 12)  hc rfl rfl rfl sh_31 rfl rfl ?_
    refine g_iload_n (pc' := 13)  hc rfl rfl rfl ?_
    have hb := (zwp_bnd h).1
    replace h := (zwp_bnd h).2
    refine z_iaload (pc' := 14) (v := (((I 33)) a1.toNatClampNeg)) hc rfl rfl sh_33 hb rfl rfl ?_
    refine g_istore_n (pc' := 15) (ls1 := [some (.ref 0), some (.int a1), some (.int (((I 33)) a1.toNatClampNeg))]) hc rfl (zlt rfl) rfl rfl ?_
    refine g_iload_n (pc' := 16)  hc rfl rfl rfl ?_
    refine g_if_ne (pc' := 19) hc rfl rfl (fun hx => ?_) (fun hx => ?_)
    · replace h := zwp_f h hx
      refine g_aload_n (pc' := 25)  hc rfl rfl rfl rfl ?_
      refine z_getR (pc' := 28)  hc rfl rfl rfl sh_0 rfl rfl ?_
      refine g_aload_n (pc' := 29)  hc rfl rfl rfl rfl ?_
      refine z_getR (pc' := 32)  hc rfl rfl rfl sh_0 rfl rfl ?_
      refine z_virt (as := [.ref 31]) (a := 36) (r := []) hc rfl rfl rfl rfl sh_36 rfl zco_3 rfl rfl rfl ?_
      refine ok_X0_keep_36_31 (zdp hd rfl) (zwp_mono (zwp_bind h) ?_)
      rintro ⟨o2, o3, o4⟩ h
      refine z_po (pc' := 35) (st' := []) (v := none) (L' := [(6, none, (I 6)), (33, none, (I 33)), (36, some 1, fun _ => o3), (36, some 2, fun _ => o2), (37, none, o4)]) (K' := []) zco_3 rfl rfl rfl rfl rfl rfl rfl rfl ?_
      refine g_aload_n (pc' := 36)  hc rfl rfl rfl rfl ?_
      refine z_getR (pc' := 39)  hc rfl rfl rfl sh_0 rfl rfl ?_
      refine z_getR (pc' := 42)  hc rfl rfl rfl sh_31 rfl rfl ?_
      refine g_iload_n (pc' := 43)  hc rfl rfl rfl ?_
      refine g_iconst (pc' := 44) (v := (0 : Int32)) hc rfl zki_0 rfl ?_
      have hb := (zwp_bnd h).1
      replace h := (zwp_bnd h).2
      refine z_iastore (pc' := 45) (g := (I 33)) (L' := [(6, none, (I 6)), (33, none, (upd ((I 33)) a1.toNatClampNeg (0 : Int32))), (36, some 1, fun _ => o3), (36, some 2, fun _ => o2), (37, none, o4)]) hc rfl rfl sh_33 hb rfl rfl rfl rfl ?_
      refine g_iload_n (pc' := 46)  hc rfl rfl rfl ?_
      replace h := zws h
      exact g_ireturn hc rfl rfl rfl (fun _ => ⟨rfl, rfl⟩) h
    · replace h := zwp_t h hx
      refine g_aload_n (pc' := 20)  hc rfl rfl rfl rfl ?_
      refine z_virt (as := []) (a := 0) (r := []) hc rfl rfl rfl rfl sh_0 rfl zco_137 rfl rfl rfl ?_
      refine ok_X11_refuseAct_0 (zdp hd rfl) (zwp_mono (zwp_bind h) ?_)
      rintro ⟨r6, o5⟩ h
      refine z_po (pc' := 23) (st' := [.int r6]) (v := (some (.int r6))) (L' := [(6, none, o5), (33, none, (I 33)), (36, some 1, fun _ => (I 36 1)), (36, some 2, fun _ => (I 36 2)), (37, none, (I 37))]) (K' := []) zco_137 rfl rfl rfl rfl rfl rfl rfl rfl ?_
      replace h := zws h
      exact g_ireturn hc rfl rfl rfl (fun _ => ⟨rfl, rfl⟩) h
  · replace h := zws h
    exact z_pox (L' := [(6, none, (I 6)), (33, none, (I 33)), (36, some 1, fun _ => (I 36 1)), (36, some 2, fun _ => (I 36 2)), (37, none, (I 37))]) (K' := []) rfl rfl rfl rfl rfl rfl rfl h
set_option maxRecDepth 4000 in
theorem ok_L_brush_0_107_p {I : pI} {J : pJ} {a1 : Int32} {Q : pQ} {d : Nat} (hd : 9 ≤ d) (h : zwp (f_L_brush a1 1 (J 107) (I 36 2) (I 36 1) (I 37) (I 32) (I 34) (I 31 0) (I 31 1) (I 33) (J 31 2) (I 7 3) (I 6)) (fun w => match w with | (r, o0, o1, o2, o3, o4, o5) => Q (.inl (some (.int r))) (zS 7 19 I [(6, none, o5), (33, none, o4), (36, some 1, fun _ => o2), (36, some 2, fun _ => o1), (37, none, o3)] J [(107, none, o0)]))) : pm_call M cost zext d 278 [.ref 0, .int a1, .ref 107] (pm_st 108 (shp 7 19) I J) Q := by
  obtain ⟨d, rfl⟩ := zd1 hd rfl
  have hc := pm_call_m (M := M) (cost := cost) zext_m d
  refine z_in (L := [(6, none, (I 6)), (33, none, (I 33)), (36, some 1, fun _ => (I 36 1)), (36, some 2, fun _ => (I 36 2)), (37, none, (I 37))]) (K := [(107, none, (J 107))]) (ls := [some (.ref 0), some (.int a1), some (.ref 107), none]) zmt_278 zco_278 rfl rfl (zid_a (zid_a (zid_s (zid_s (zid_a zid_n))))) (zid_a zid_n) ?_
  delta f_L_brush at h
  refine g_aload_n (pc' := 1)  hc rfl rfl rfl rfl ?_
  refine g_iconst (pc' := 2) (v := (0 : Int32)) hc rfl zki_0 rfl ?_
  refine g_aload_n (pc' := 3)  hc rfl rfl rfl rfl ?_
  refine g_iload_n (pc' := 4)  hc rfl rfl rfl ?_
  refine z_virt (as := [.int a1]) (a := 0) (r := [.int (0 : Int32), .ref 107]) hc rfl rfl rfl rfl sh_0 rfl zco_106 rfl rfl rfl ?_
  refine ok_X11_brush_0_p (zdp hd rfl) (zwp_mono (zwp_bind h) ?_)
  rintro ⟨(r6 | E7), o1, o2, o3, o4, o5⟩ h
  · refine z_po (pc' := 7) (st' := [.int r6, .int (0 : Int32), .ref 107]) (v := (some (.int r6))) (L' := [(6, none, o5), (33, none, o4), (36, some 1, fun _ => o2), (36, some 2, fun _ => o1), (37, none, o3)]) (K' := [(107, none, (J 107))]) zco_106 rfl rfl rfl rfl rfl rfl rfl rfl ?_
    refine g_i2l (pc' := 8)  hc rfl rfl ?_
    have hb := (zwp_bnd h).1
    replace h := (zwp_bnd h).2
    refine z_lastore (pc' := 9) (g := (J 107)) (K' := [(107, none, (vp_updL ((J 107)) (0 : Int32).toNatClampNeg r6.toInt64))]) hc rfl rfl sh_107 hb rfl rfl rfl rfl ?_
    refine g_goto hc rfl ?_
    refine g_iconst (pc' := 16) (v := (0 : Int32)) hc rfl zki_0 rfl ?_
    replace h := zws h
    exact g_ireturn hc rfl rfl rfl (fun _ => ⟨rfl, rfl⟩) h
  · by_cases hE : E7 = x_N
    · replace h := zwp_t h hE
      replace h := zws h
      exact z_poh (L' := [(6, none, o5), (33, none, o4), (36, some 1, fun _ => o2), (36, some 2, fun _ => o1), (37, none, o3)]) (K' := [(107, none, (J 107))]) (zhd1 (e := 9) (pc := 4) rfl hE) rfl rfl rfl rfl rfl rfl rfl rfl h
    replace h := zwp_f h hE
    exact (zwn h).elim
set_option maxRecDepth 4000 in
theorem ok_X11_wall_0_p {I : pI} {J : pJ} {a1 : Int32} {a2 : Int32} {Q : pQ} {d : Nat} (hd : 8 ≤ d) (h : zwp (f_X11_wall a1 a2 (I 36 2) (I 36 1) (I 37) (I 32) (I 31 3) (I 34) (I 31 0) (I 31 1) (I 33) (J 31 2) (I 7 1) (I 11) (I 7 7) (I 7 0) (I 6)) (fun w => match w with | (.inl r, o0, o1, o2, o3, o4) => Q (.inl (some (.int r))) (zS 7 19 I [(6, none, o4), (36, some 1, fun _ => o1), (36, some 2, fun _ => o0), (37, none, o2)] J [(31, some 2, fun _ => o3)]) | (.inr E, o0, o1, o2, o3, o4) => Q (.inr E) (zS 7 19 I [(6, none, o4), (36, some 1, fun _ => o1), (36, some 2, fun _ => o0), (37, none, o2)] J [(31, some 2, fun _ => o3)]))) : pm_call M cost zext d 107 [.ref 0, .int a1, .int a2] (pm_st 108 (shp 7 19) I J) Q := by
  obtain ⟨d, rfl⟩ := zd1 hd rfl
  have hc := pm_call_m (M := M) (cost := cost) zext_m d
  refine z_in (L := [(6, none, (I 6)), (36, some 1, fun _ => (I 36 1)), (36, some 2, fun _ => (I 36 2)), (37, none, (I 37))]) (K := [(31, some 2, fun _ => (J 31 2))]) (ls := [some (.ref 0), some (.int a1), some (.int a2)]) zmt_107 zco_107 rfl rfl (zid_a (zid_s (zid_s (zid_a zid_n)))) (zid_s zid_n) ?_
  delta f_X11_wall at h
  refine g_aload_n (pc' := 1)  hc rfl rfl rfl rfl ?_
  refine g_iload_n (pc' := 2)  hc rfl rfl rfl ?_
  refine z_virt (as := [.int a1]) (a := 0) (r := []) hc rfl rfl rfl rfl sh_0 rfl zco_134 rfl rfl rfl ?_
  refine ok_X11_checkCell_0_p (zdp hd rfl) (zwp_mono (zwp_bind h) ?_)
  rintro (⟨⟩ | E1) h
  · refine z_po (pc' := 5) (st' := []) (v := none) (L' := [(6, none, (I 6)), (36, some 1, fun _ => (I 36 1)), (36, some 2, fun _ => (I 36 2)), (37, none, (I 37))]) (K' := [(31, some 2, fun _ => (J 31 2))]) zco_134 rfl rfl rfl rfl rfl rfl rfl rfl ?_
    refine g_aload_n (pc' := 6)  hc rfl rfl rfl rfl ?_
    refine z_getR (pc' := 9)  hc rfl rfl rfl sh_0 rfl rfl ?_
    refine g_iload_n (pc' := 10)  hc rfl rfl rfl ?_
    refine z_virt (as := [.int a1]) (a := 31) (r := []) hc rfl rfl rfl rfl sh_31 rfl zco_71 rfl rfl rfl ?_
    refine ok_X8_isWall_31 (zdp hd rfl) (zwp_mono (zwp_bind h) ?_)
    rintro r2 h
    refine z_po (pc' := 13) (st' := [.int r2]) (v := (some (.int r2))) (L' := [(6, none, (I 6)), (36, some 1, fun _ => (I 36 1)), (36, some 2, fun _ => (I 36 2)), (37, none, (I 37))]) (K' := [(31, some 2, fun _ => (J 31 2))]) zco_71 rfl rfl rfl rfl rfl rfl rfl rfl ?_
    refine g_iload_n (pc' := 14)  hc rfl rfl rfl ?_
    refine g_icmp_eq (pc' := 17) hc rfl rfl (fun hx => ?_) (fun hx => ?_)
    · replace h := zwp_t h hx
      refine g_aload_n (pc' := 40)  hc rfl rfl rfl rfl ?_
      refine z_virt (as := []) (a := 0) (r := []) hc rfl rfl rfl rfl sh_0 rfl zco_137 rfl rfl rfl ?_
      refine ok_X11_refuseAct_0 (zdp hd rfl) (zwp_mono (zwp_bind h) ?_)
      rintro ⟨r4, o3⟩ h
      refine z_po (pc' := 43) (st' := [.int r4]) (v := (some (.int r4))) (L' := [(6, none, o3), (36, some 1, fun _ => (I 36 1)), (36, some 2, fun _ => (I 36 2)), (37, none, (I 37))]) (K' := [(31, some 2, fun _ => (J 31 2))]) zco_137 rfl rfl rfl rfl rfl rfl rfl rfl ?_
      refine g_pop (pc' := 44)  hc rfl rfl rfl ?_
      refine g_iconst (pc' := 45) (v := (0 : Int32)) hc rfl zki_0 rfl ?_
      replace h := zws h
      exact g_ireturn hc rfl rfl rfl (fun _ => ⟨rfl, rfl⟩) h
    · replace h := zwp_f h hx
      refine g_aload_n (pc' := 18)  hc rfl rfl rfl rfl ?_
      refine z_getR (pc' := 21)  hc rfl rfl rfl sh_0 rfl rfl ?_
      refine g_iload_n (pc' := 22)  hc rfl rfl rfl ?_
      refine z_virt (as := [.int a1]) (a := 31) (r := []) hc rfl rfl rfl rfl sh_31 rfl zco_72 rfl rfl rfl ?_
      refine ok_X8_figuresAt_31 (zdp hd rfl) (zwp_mono (zwp_bind h) ?_)
      rintro r5 h
      refine z_po (pc' := 25) (st' := [.int r5]) (v := (some (.int r5))) (L' := [(6, none, (I 6)), (36, some 1, fun _ => (I 36 1)), (36, some 2, fun _ => (I 36 2)), (37, none, (I 37))]) (K' := [(31, some 2, fun _ => (J 31 2))]) zco_72 rfl rfl rfl rfl rfl rfl rfl rfl ?_
      refine g_if_ne (pc' := 28) hc rfl rfl (fun hx => ?_) (fun hx => ?_)
      · replace h := zwp_f h hx
        refine g_aload_n (pc' := 40)  hc rfl rfl rfl rfl ?_
        refine z_virt (as := []) (a := 0) (r := []) hc rfl rfl rfl rfl sh_0 rfl zco_137 rfl rfl rfl ?_
        refine ok_X11_refuseAct_0 (zdp hd rfl) (zwp_mono (zwp_bind h) ?_)
        rintro ⟨r7, o6⟩ h
        refine z_po (pc' := 43) (st' := [.int r7]) (v := (some (.int r7))) (L' := [(6, none, o6), (36, some 1, fun _ => (I 36 1)), (36, some 2, fun _ => (I 36 2)), (37, none, (I 37))]) (K' := [(31, some 2, fun _ => (J 31 2))]) zco_137 rfl rfl rfl rfl rfl rfl rfl rfl ?_
        refine g_pop (pc' := 44)  hc rfl rfl rfl ?_
        refine g_iconst (pc' := 45) (v := (0 : Int32)) hc rfl zki_0 rfl ?_
        replace h := zws h
        exact g_ireturn hc rfl rfl rfl (fun _ => ⟨rfl, rfl⟩) h
      · replace h := zwp_t h hx
        refine g_aload_n (pc' := 29)  hc rfl rfl rfl rfl ?_
        refine z_getR (pc' := 32)  hc rfl rfl rfl sh_0 rfl rfl ?_
        refine g_iload_n (pc' := 33)  hc rfl rfl rfl ?_
        refine z_virt (as := [.int a1]) (a := 7) (r := []) hc rfl rfl rfl rfl sh_7 rfl zco_25 rfl rfl rfl ?_
        refine ok_X3_seatsAt_7 (zdp hd rfl) (zwp_mono (zwp_bind h) ?_)
        rintro r8 h
        refine z_po (pc' := 36) (st' := [.int r8]) (v := (some (.int r8))) (L' := [(6, none, (I 6)), (36, some 1, fun _ => (I 36 1)), (36, some 2, fun _ => (I 36 2)), (37, none, (I 37))]) (K' := [(31, some 2, fun _ => (J 31 2))]) zco_25 rfl rfl rfl rfl rfl rfl rfl rfl ?_
        refine g_if_eq (pc' := 39) hc rfl rfl (fun hx => ?_) (fun hx => ?_)
        · replace h := zwp_t h hx
          refine g_aload_n (pc' := 47)  hc rfl rfl rfl rfl ?_
          refine z_getR (pc' := 50)  hc rfl rfl rfl sh_0 rfl rfl ?_
          refine g_aload_n (pc' := 51)  hc rfl rfl rfl rfl ?_
          refine z_getR (pc' := 54)  hc rfl rfl rfl sh_0 rfl rfl ?_
          refine z_virt (as := [.ref 31]) (a := 36) (r := []) hc rfl rfl rfl rfl sh_36 rfl zco_3 rfl rfl rfl ?_
          refine ok_X0_keep_36_31 (zdp hd rfl) (zwp_mono (zwp_bind h) ?_)
          rintro ⟨o9, o10, o11⟩ h
          refine z_po (pc' := 57) (st' := []) (v := none) (L' := [(6, none, (I 6)), (36, some 1, fun _ => o10), (36, some 2, fun _ => o9), (37, none, o11)]) (K' := [(31, some 2, fun _ => (J 31 2))]) zco_3 rfl rfl rfl rfl rfl rfl rfl rfl ?_
          refine g_aload_n (pc' := 58)  hc rfl rfl rfl rfl ?_
          refine z_getR (pc' := 61)  hc rfl rfl rfl sh_0 rfl rfl ?_
          refine g_aload_n (pc' := 62)  hc rfl rfl rfl rfl ?_
          refine z_getR (pc' := 65)  hc rfl rfl rfl sh_0 rfl rfl ?_
          refine z_getJ (pc' := 68) (v := (J 31 2)) hc rfl rfl rfl sh_31 rfl rfl rfl ?_
          refine g_lconst (pc' := 69) (v := (1 : Int64)) hc rfl zkl_1 rfl ?_
          refine g_iload_n (pc' := 70)  hc rfl rfl rfl ?_
          refine g_lshl (pc' := 71)  hc rfl rfl ?_
          refine g_lxor (pc' := 72)  hc rfl rfl ?_
          refine z_putJ (pc' := 75) (K' := [(31, some 2, fun _ => (((J 31 2)) ^^^ ((1 : Int64) <<< (a1.toInt64 &&& 63))))]) hc rfl rfl rfl sh_31 rfl zft_8_2 (fun h => Bool.noConfusion h) rfl rfl rfl ?_
          refine g_iconst (pc' := 76) (v := (1 : Int32)) hc rfl zki_1 rfl ?_
          replace h := zws h
          exact g_ireturn hc rfl rfl rfl (fun _ => ⟨rfl, rfl⟩) h
        · replace h := zwp_f h hx
          refine g_aload_n (pc' := 40)  hc rfl rfl rfl rfl ?_
          refine z_virt (as := []) (a := 0) (r := []) hc rfl rfl rfl rfl sh_0 rfl zco_137 rfl rfl rfl ?_
          refine ok_X11_refuseAct_0 (zdp hd rfl) (zwp_mono (zwp_bind h) ?_)
          rintro ⟨r13, o12⟩ h
          refine z_po (pc' := 43) (st' := [.int r13]) (v := (some (.int r13))) (L' := [(6, none, o12), (36, some 1, fun _ => (I 36 1)), (36, some 2, fun _ => (I 36 2)), (37, none, (I 37))]) (K' := [(31, some 2, fun _ => (J 31 2))]) zco_137 rfl rfl rfl rfl rfl rfl rfl rfl ?_
          refine g_pop (pc' := 44)  hc rfl rfl rfl ?_
          refine g_iconst (pc' := 45) (v := (0 : Int32)) hc rfl zki_0 rfl ?_
          replace h := zws h
          exact g_ireturn hc rfl rfl rfl (fun _ => ⟨rfl, rfl⟩) h
  · replace h := zws h
    exact z_pox (L' := [(6, none, (I 6)), (36, some 1, fun _ => (I 36 1)), (36, some 2, fun _ => (I 36 2)), (37, none, (I 37))]) (K' := [(31, some 2, fun _ => (J 31 2))]) rfl rfl rfl rfl rfl rfl rfl h
set_option maxRecDepth 4000 in
theorem ok_L_wall_0_107_p {I : pI} {J : pJ} {a1 : Int32} {a2 : Int32} {Q : pQ} {d : Nat} (hd : 9 ≤ d) (h : zwp (f_L_wall a1 a2 1 (J 107) (I 36 2) (I 36 1) (I 37) (I 32) (I 31 3) (I 34) (I 31 0) (I 31 1) (I 33) (J 31 2) (I 7 1) (I 11) (I 7 7) (I 7 0) (I 6)) (fun w => match w with | (r, o0, o1, o2, o3, o4, o5) => Q (.inl (some (.int r))) (zS 7 19 I [(6, none, o5), (36, some 1, fun _ => o2), (36, some 2, fun _ => o1), (37, none, o3)] J [(31, some 2, fun _ => o4), (107, none, o0)]))) : pm_call M cost zext d 279 [.ref 0, .int a1, .int a2, .ref 107] (pm_st 108 (shp 7 19) I J) Q := by
  obtain ⟨d, rfl⟩ := zd1 hd rfl
  have hc := pm_call_m (M := M) (cost := cost) zext_m d
  refine z_in (L := [(6, none, (I 6)), (36, some 1, fun _ => (I 36 1)), (36, some 2, fun _ => (I 36 2)), (37, none, (I 37))]) (K := [(31, some 2, fun _ => (J 31 2)), (107, none, (J 107))]) (ls := [some (.ref 0), some (.int a1), some (.int a2), some (.ref 107), none]) zmt_279 zco_279 rfl rfl (zid_a (zid_s (zid_s (zid_a zid_n)))) (zid_s (zid_a zid_n)) ?_
  delta f_L_wall at h
  refine g_aload_n (pc' := 1)  hc rfl rfl rfl rfl ?_
  refine g_iconst (pc' := 2) (v := (0 : Int32)) hc rfl zki_0 rfl ?_
  refine g_aload_n (pc' := 3)  hc rfl rfl rfl rfl ?_
  refine g_iload_n (pc' := 4)  hc rfl rfl rfl ?_
  refine g_iload_n (pc' := 5)  hc rfl rfl rfl ?_
  refine z_virt (as := [.int a1, .int a2]) (a := 0) (r := [.int (0 : Int32), .ref 107]) hc rfl rfl rfl rfl sh_0 rfl zco_107 rfl rfl rfl ?_
  refine ok_X11_wall_0_p (zdp hd rfl) (zwp_mono (zwp_bind h) ?_)
  rintro ⟨(r6 | E7), o1, o2, o3, o4, o5⟩ h
  · refine z_po (pc' := 8) (st' := [.int r6, .int (0 : Int32), .ref 107]) (v := (some (.int r6))) (L' := [(6, none, o5), (36, some 1, fun _ => o2), (36, some 2, fun _ => o1), (37, none, o3)]) (K' := [(31, some 2, fun _ => o4), (107, none, (J 107))]) zco_107 rfl rfl rfl rfl rfl rfl rfl rfl ?_
    refine zjn (G := (fun (j8 : Int64) => pm_ev C_L_wall (d + 1) (pm_call M cost zext d) cost (false, true) 108 1 6 Q 16 [some (.ref 0), some (.int a1), some (.int a2), some (.ref 107), none] [.long j8, .int (0 : Int32), .ref 107] 0 0 (zS 7 19 I [(6, none, o5), (36, some 1, fun _ => o2), (36, some 2, fun _ => o1), (37, none, o3)] J [(31, some 2, fun _ => o4), (107, none, (J 107))]))) (zwp_bind h) ?_ (fun h => ?_)
    · rintro j8 h
      have hb := (zwp_bnd h).1
      replace h := (zwp_bnd h).2
      refine z_lastore (pc' := 17) (g := (J 107)) (K' := [(31, some 2, fun _ => o4), (107, none, (vp_updL ((J 107)) (0 : Int32).toNatClampNeg j8))]) hc rfl rfl sh_107 hb rfl rfl rfl rfl ?_
      refine g_goto hc rfl ?_
      refine g_iconst (pc' := 25) (v := (0 : Int32)) hc rfl zki_0 rfl ?_
      replace h := zws h
      exact g_ireturn hc rfl rfl rfl (fun _ => ⟨rfl, rfl⟩) h
    refine g_if_eq (pc' := 11) hc rfl rfl (fun hx => ?_) (fun hx => ?_)
    · replace h := zwp_t h hx
      refine g_lconst (pc' := 16) (v := (0 : Int64)) hc rfl zkl_0 rfl ?_
      replace h := zws h
      exact h
    · replace h := zwp_f h hx
      refine g_lconst (pc' := 12) (v := (1 : Int64)) hc rfl zkl_1 rfl ?_
      refine g_goto hc rfl ?_
      replace h := zws h
      exact h
  · by_cases hE : E7 = x_N
    · replace h := zwp_t h hE
      replace h := zws h
      exact z_poh (L' := [(6, none, o5), (36, some 1, fun _ => o2), (36, some 2, fun _ => o1), (37, none, o3)]) (K' := [(31, some 2, fun _ => o4), (107, none, (J 107))]) (zhd1 (e := 17) (pc := 5) rfl hE) rfl rfl rfl rfl rfl rfl rfl rfl h
    replace h := zwp_f h hE
    exact (zwn h).elim
set_option maxRecDepth 4000 in
theorem ok_X11_checkWhat {p q : Nat} {I : pI} {J : pJ} {a0 : Int32} {a1 : Int32} {Q : pQ} {d : Nat} (hd : 7 ≤ d) (h : zwp (f_X11_checkWhat a0 a1) (fun w => match w with | .inl () => Q (.inl none) (zS p q I [] J []) | .inr E => Q (.inr E) (zS p q I [] J []))) : pm_call M cost zext d 135 [.int a0, .int a1] (pm_st 108 (shp p q) I J) Q := by
  obtain ⟨d, rfl⟩ := zd1 hd rfl
  have hc := pm_call_m (M := M) (cost := cost) zext_m d
  refine z_in (L := []) (K := []) (ls := [some (.int a0), some (.int a1)]) zmt_135 zco_135 rfl rfl zid_n zid_n ?_
  delta f_X11_checkWhat at h
  refine g_iload_n (pc' := 1)  hc rfl rfl rfl ?_
  refine g_if_lt (pc' := 4) hc rfl rfl (fun hx => ?_) (fun hx => ?_)
  · replace h := zwp_t h hx
    replace h := zws h
    exact z_throw hc rfl rfl (zdq hd rfl) rfl rfl rfl h
  · replace h := zwp_f h hx
    refine g_iload_n (pc' := 5)  hc rfl rfl rfl ?_
    refine g_iload_n (pc' := 6)  hc rfl rfl rfl ?_
    refine g_icmp_le (pc' := 9) hc rfl rfl (fun hx => ?_) (fun hx => ?_)
    · replace h := zwp_t h hx
      replace h := zws h
      exact g_return hc rfl rfl (fun _ => ⟨rfl, rfl⟩) h
    · replace h := zwp_f h hx
      replace h := zws h
      exact z_throw hc rfl rfl (zdq hd rfl) rfl rfl rfl h
set_option maxRecDepth 4000 in
theorem ok_X11_checkHours {p q : Nat} {I : pI} {J : pJ} {a0 : Int32} {a1 : Int32} {a2 : Int32} {Q : pQ} {d : Nat} (hd : 7 ≤ d) (h : zwp (f_X11_checkHours a0 a1 a2) (fun w => match w with | .inl () => Q (.inl none) (zS p q I [] J []) | .inr E => Q (.inr E) (zS p q I [] J []))) : pm_call M cost zext d 136 [.int a0, .int a1, .int a2] (pm_st 108 (shp p q) I J) Q := by
  obtain ⟨d, rfl⟩ := zd1 hd rfl
  have hc := pm_call_m (M := M) (cost := cost) zext_m d
  refine z_in (L := []) (K := []) (ls := [some (.int a0), some (.int a1), some (.int a2)]) zmt_136 zco_136 rfl rfl zid_n zid_n ?_
  delta f_X11_checkHours at h
  refine g_iload_n (pc' := 1)  hc rfl rfl rfl ?_
  refine g_iload_n (pc' := 2)  hc rfl rfl rfl ?_
  refine g_icmp_lt (pc' := 5) hc rfl rfl (fun hx => ?_) (fun hx => ?_)
  · replace h := zwp_t h hx
    replace h := zws h
    exact z_throw hc rfl rfl (zdq hd rfl) rfl rfl rfl h
  · replace h := zwp_f h hx
    refine g_iload_n (pc' := 6)  hc rfl rfl rfl ?_
    refine g_iload_n (pc' := 7)  hc rfl rfl rfl ?_
    refine g_icmp_le (pc' := 10) hc rfl rfl (fun hx => ?_) (fun hx => ?_)
    · replace h := zwp_t h hx
      replace h := zws h
      exact g_return hc rfl rfl (fun _ => ⟨rfl, rfl⟩) h
    · replace h := zwp_f h hx
      replace h := zws h
      exact z_throw hc rfl rfl (zdq hd rfl) rfl rfl rfl h
set_option maxRecDepth 4000 in
theorem ok_X11_then_0_p {I : pI} {J : pJ} {a1 : Int32} {a2 : Int32} {a3 : Int32} {Q : pQ} {d : Nat} (hd : 8 ≤ d) (h : zwp (f_X11_then a1 a2 a3 (I 54) (I 53 3) (I 56) (I 53 0) (I 57) (I 53 1) (I 55) (J 53 2) (I 52) (I 32) (I 31 3) (I 34) (I 31 0) (I 35) (I 31 1) (I 33) (J 31 2) (I 7 12) (I 7 3) (I 15) (I 13 2) (I 14) (I 7 1) (I 18) (I 16 2) (I 17) (I 12) (I 7 9) (I 9) (I 10) (I 7 0)) (fun w => match w with | (.inl r, o0, o1, o2, o3, o4, o5, o6, o7, o8, o9, o10) => Q (.inl (some (.int r))) (zS 7 19 I [(14, none, o9), (17, none, o10), (52, none, o8), (53, some 0, fun _ => o3), (53, some 1, fun _ => o5), (53, some 3, fun _ => o1), (54, none, o0), (55, none, o6), (56, none, o2), (57, none, o4)] J [(53, some 2, fun _ => o7)]) | (.inr E, o0, o1, o2, o3, o4, o5, o6, o7, o8, o9, o10) => Q (.inr E) (zS 7 19 I [(14, none, o9), (17, none, o10), (52, none, o8), (53, some 0, fun _ => o3), (53, some 1, fun _ => o5), (53, some 3, fun _ => o1), (54, none, o0), (55, none, o6), (56, none, o2), (57, none, o4)] J [(53, some 2, fun _ => o7)]))) : pm_call M cost zext d 109 [.ref 0, .int a1, .int a2, .int a3] (pm_st 108 (shp 7 19) I J) Q := by
  obtain ⟨d, rfl⟩ := zd1 hd rfl
  have hc := pm_call_m (M := M) (cost := cost) zext_m d
  refine z_in (L := [(14, none, (I 14)), (17, none, (I 17)), (52, none, (I 52)), (53, some 0, fun _ => (I 53 0)), (53, some 1, fun _ => (I 53 1)), (53, some 3, fun _ => (I 53 3)), (54, none, (I 54)), (55, none, (I 55)), (56, none, (I 56)), (57, none, (I 57))]) (K := [(53, some 2, fun _ => (J 53 2))]) (ls := [some (.ref 0), some (.int a1), some (.int a2), some (.int a3)]) zmt_109 zco_109 rfl rfl (zid_a (zid_a (zid_a (zid_s (zid_s (zid_s (zid_a (zid_a (zid_a (zid_a zid_n)))))))))) (zid_s zid_n) ?_
  delta f_X11_then at h
  refine g_aload_n (pc' := 1)  hc rfl rfl rfl rfl ?_
  refine g_iload_n (pc' := 2)  hc rfl rfl rfl ?_
  refine z_virt (as := [.int a1]) (a := 0) (r := []) hc rfl rfl rfl rfl sh_0 rfl zco_133 rfl rfl rfl ?_
  refine ok_X11_checkFigure_0_p (zdp hd rfl) (zwp_mono (zwp_bind h) ?_)
  rintro (⟨⟩ | E1) h
  · refine z_po (pc' := 5) (st' := []) (v := none) (L' := [(14, none, (I 14)), (17, none, (I 17)), (52, none, (I 52)), (53, some 0, fun _ => (I 53 0)), (53, some 1, fun _ => (I 53 1)), (53, some 3, fun _ => (I 53 3)), (54, none, (I 54)), (55, none, (I 55)), (56, none, (I 56)), (57, none, (I 57))]) (K' := [(53, some 2, fun _ => (J 53 2))]) zco_133 rfl rfl rfl rfl rfl rfl rfl rfl ?_
    refine g_iload_n (pc' := 6)  hc rfl rfl rfl ?_
    refine g_iconst (pc' := 7) (v := (2 : Int32)) hc rfl zki_2 rfl ?_
    refine z_stat (as := [.int a3, .int (2 : Int32)]) (r := []) hc rfl rfl rfl rfl zco_135 rfl rfl rfl ?_
    refine ok_X11_checkWhat (zdp hd rfl) (zwp_mono (zwp_bind h) ?_)
    rintro (⟨⟩ | E2) h
    · refine z_po (pc' := 10) (st' := []) (v := none) (L' := [(14, none, (I 14)), (17, none, (I 17)), (52, none, (I 52)), (53, some 0, fun _ => (I 53 0)), (53, some 1, fun _ => (I 53 1)), (53, some 3, fun _ => (I 53 3)), (54, none, (I 54)), (55, none, (I 55)), (56, none, (I 56)), (57, none, (I 57))]) (K' := [(53, some 2, fun _ => (J 53 2))]) zco_135 rfl rfl rfl rfl rfl rfl rfl rfl ?_
      refine g_iload_n (pc' := 11)  hc rfl rfl rfl ?_
      refine g_iconst (pc' := 12) (v := (0 : Int32)) hc rfl zki_0 rfl ?_
      refine g_bipush (pc' := 14) (v := (100 : Int32)) hc rfl zkb_100 rfl ?_
      refine z_stat (as := [.int a2, .int (0 : Int32), .int (100 : Int32)]) (r := []) hc rfl rfl rfl rfl zco_136 rfl rfl rfl ?_
      refine ok_X11_checkHours (zdp hd rfl) (zwp_mono (zwp_bind h) ?_)
      rintro (⟨⟩ | E3) h
      · refine z_po (pc' := 17) (st' := []) (v := none) (L' := [(14, none, (I 14)), (17, none, (I 17)), (52, none, (I 52)), (53, some 0, fun _ => (I 53 0)), (53, some 1, fun _ => (I 53 1)), (53, some 3, fun _ => (I 53 3)), (54, none, (I 54)), (55, none, (I 55)), (56, none, (I 56)), (57, none, (I 57))]) (K' := [(53, some 2, fun _ => (J 53 2))]) zco_136 rfl rfl rfl rfl rfl rfl rfl rfl ?_
        refine g_aload_n (pc' := 18)  hc rfl rfl rfl rfl ?_
        refine g_iload_n (pc' := 19)  hc rfl rfl rfl ?_
        refine z_virt (as := [.int a2]) (a := 0) (r := []) hc rfl rfl rfl rfl sh_0 rfl zco_139 rfl rfl rfl ?_
        refine ok_X11_foresee_0_p (zdp hd rfl) (zwp_mono (zwp_bind h) ?_)
        rintro ⟨o4, o5, o6, o7, o8, o9, o10, o11, o12, o13, o14⟩ h
        refine z_po (pc' := 22) (st' := []) (v := none) (L' := [(14, none, o13), (17, none, o14), (52, none, o12), (53, some 0, fun _ => o7), (53, some 1, fun _ => o9), (53, some 3, fun _ => o5), (54, none, o4), (55, none, o10), (56, none, o6), (57, none, o8)]) (K' := [(53, some 2, fun _ => o11)]) zco_139 rfl rfl rfl rfl rfl rfl rfl rfl ?_
        refine g_iload_n (pc' := 23)  hc rfl rfl rfl ?_
        refine g_if_ne (pc' := 26) hc rfl rfl (fun hx => ?_) (fun hx => ?_)
        · replace h := zwp_f h hx
          refine g_iload_n (pc' := 37)  hc rfl rfl rfl ?_
          refine g_iconst (pc' := 38) (v := (1 : Int32)) hc rfl zki_1 rfl ?_
          refine g_icmp_ne (pc' := 41) hc rfl rfl (fun hx => ?_) (fun hx => ?_)
          · replace h := zwp_f h hx
            refine g_aload_n (pc' := 54)  hc rfl rfl rfl rfl ?_
            refine z_getR (pc' := 57)  hc rfl rfl rfl sh_0 rfl rfl ?_
            refine z_getR (pc' := 60)  hc rfl rfl rfl sh_53 rfl rfl ?_
            refine g_iload_n (pc' := 61)  hc rfl rfl rfl ?_
            have hb := (zwp_bnd h).1
            replace h := (zwp_bnd h).2
            refine z_iaload (pc' := 62) (v := (o6 a1.toNatClampNeg)) hc rfl rfl sh_56 hb rfl rfl ?_
            replace h := zws h
            exact g_ireturn hc rfl rfl rfl (fun _ => ⟨rfl, rfl⟩) h
          · replace h := zwp_t h hx
            refine g_aload_n (pc' := 42)  hc rfl rfl rfl rfl ?_
            refine z_getR (pc' := 45)  hc rfl rfl rfl sh_0 rfl rfl ?_
            refine z_getR (pc' := 48)  hc rfl rfl rfl sh_53 rfl rfl ?_
            refine g_iload_n (pc' := 49)  hc rfl rfl rfl ?_
            have hb := (zwp_bnd h).1
            replace h := (zwp_bnd h).2
            refine z_iaload (pc' := 50) (v := (o10 a1.toNatClampNeg)) hc rfl rfl sh_55 hb rfl rfl ?_
            refine g_goto hc rfl ?_
            replace h := zws h
            exact g_ireturn hc rfl rfl rfl (fun _ => ⟨rfl, rfl⟩) h
        · replace h := zwp_t h hx
          refine g_aload_n (pc' := 27)  hc rfl rfl rfl rfl ?_
          refine z_getR (pc' := 30)  hc rfl rfl rfl sh_0 rfl rfl ?_
          refine z_getR (pc' := 33)  hc rfl rfl rfl sh_53 rfl rfl ?_
          refine g_iload_n (pc' := 34)  hc rfl rfl rfl ?_
          have hb := (zwp_bnd h).1
          replace h := (zwp_bnd h).2
          refine z_iaload (pc' := 35) (v := (o4 a1.toNatClampNeg)) hc rfl rfl sh_54 hb rfl rfl ?_
          replace h := zws h
          exact g_ireturn hc rfl rfl rfl (fun _ => ⟨rfl, rfl⟩) h
      · replace h := zws h
        exact z_pox (L' := [(14, none, (I 14)), (17, none, (I 17)), (52, none, (I 52)), (53, some 0, fun _ => (I 53 0)), (53, some 1, fun _ => (I 53 1)), (53, some 3, fun _ => (I 53 3)), (54, none, (I 54)), (55, none, (I 55)), (56, none, (I 56)), (57, none, (I 57))]) (K' := [(53, some 2, fun _ => (J 53 2))]) rfl rfl rfl rfl rfl rfl rfl h
    · replace h := zws h
      exact z_pox (L' := [(14, none, (I 14)), (17, none, (I 17)), (52, none, (I 52)), (53, some 0, fun _ => (I 53 0)), (53, some 1, fun _ => (I 53 1)), (53, some 3, fun _ => (I 53 3)), (54, none, (I 54)), (55, none, (I 55)), (56, none, (I 56)), (57, none, (I 57))]) (K' := [(53, some 2, fun _ => (J 53 2))]) rfl rfl rfl rfl rfl rfl rfl h
  · replace h := zws h
    exact z_pox (L' := [(14, none, (I 14)), (17, none, (I 17)), (52, none, (I 52)), (53, some 0, fun _ => (I 53 0)), (53, some 1, fun _ => (I 53 1)), (53, some 3, fun _ => (I 53 3)), (54, none, (I 54)), (55, none, (I 55)), (56, none, (I 56)), (57, none, (I 57))]) (K' := [(53, some 2, fun _ => (J 53 2))]) rfl rfl rfl rfl rfl rfl rfl h
set_option maxRecDepth 4000 in
theorem ok_L_then_0_107_p {I : pI} {J : pJ} {a1 : Int32} {a2 : Int32} {a3 : Int32} {Q : pQ} {d : Nat} (hd : 9 ≤ d) (h : zwp (f_L_then a1 a2 a3 1 (J 107) (I 54) (I 53 3) (I 56) (I 53 0) (I 57) (I 53 1) (I 55) (J 53 2) (I 52) (I 32) (I 31 3) (I 34) (I 31 0) (I 35) (I 31 1) (I 33) (J 31 2) (I 7 12) (I 7 3) (I 15) (I 13 2) (I 14) (I 7 1) (I 18) (I 16 2) (I 17) (I 12) (I 7 9) (I 9) (I 10) (I 7 0)) (fun w => match w with | (r, o0, o1, o2, o3, o4, o5, o6, o7, o8, o9, o10, o11) => Q (.inl (some (.int r))) (zS 7 19 I [(14, none, o10), (17, none, o11), (52, none, o9), (53, some 0, fun _ => o4), (53, some 1, fun _ => o6), (53, some 3, fun _ => o2), (54, none, o1), (55, none, o7), (56, none, o3), (57, none, o5)] J [(53, some 2, fun _ => o8), (107, none, o0)]))) : pm_call M cost zext d 280 [.ref 0, .int a1, .int a2, .int a3, .ref 107] (pm_st 108 (shp 7 19) I J) Q := by
  obtain ⟨d, rfl⟩ := zd1 hd rfl
  have hc := pm_call_m (M := M) (cost := cost) zext_m d
  refine z_in (L := [(14, none, (I 14)), (17, none, (I 17)), (52, none, (I 52)), (53, some 0, fun _ => (I 53 0)), (53, some 1, fun _ => (I 53 1)), (53, some 3, fun _ => (I 53 3)), (54, none, (I 54)), (55, none, (I 55)), (56, none, (I 56)), (57, none, (I 57))]) (K := [(53, some 2, fun _ => (J 53 2)), (107, none, (J 107))]) (ls := [some (.ref 0), some (.int a1), some (.int a2), some (.int a3), some (.ref 107), none]) zmt_280 zco_280 rfl rfl (zid_a (zid_a (zid_a (zid_s (zid_s (zid_s (zid_a (zid_a (zid_a (zid_a zid_n)))))))))) (zid_s (zid_a zid_n)) ?_
  delta f_L_then at h
  refine g_aload (pc' := 2)  hc rfl rfl rfl rfl ?_
  refine g_iconst (pc' := 3) (v := (0 : Int32)) hc rfl zki_0 rfl ?_
  refine g_aload_n (pc' := 4)  hc rfl rfl rfl rfl ?_
  refine g_iload_n (pc' := 5)  hc rfl rfl rfl ?_
  refine g_iload_n (pc' := 6)  hc rfl rfl rfl ?_
  refine g_iload_n (pc' := 7)  hc rfl rfl rfl ?_
  refine z_virt (as := [.int a1, .int a2, .int a3]) (a := 0) (r := [.int (0 : Int32), .ref 107]) hc rfl rfl rfl rfl sh_0 rfl zco_109 rfl rfl rfl ?_
  refine ok_X11_then_0_p (zdp hd rfl) (zwp_mono (zwp_bind h) ?_)
  rintro ⟨(r12 | E13), o1, o2, o3, o4, o5, o6, o7, o8, o9, o10, o11⟩ h
  · refine z_po (pc' := 10) (st' := [.int r12, .int (0 : Int32), .ref 107]) (v := (some (.int r12))) (L' := [(14, none, o10), (17, none, o11), (52, none, o9), (53, some 0, fun _ => o4), (53, some 1, fun _ => o6), (53, some 3, fun _ => o2), (54, none, o1), (55, none, o7), (56, none, o3), (57, none, o5)]) (K' := [(53, some 2, fun _ => o8), (107, none, (J 107))]) zco_109 rfl rfl rfl rfl rfl rfl rfl rfl ?_
    refine g_i2l (pc' := 11)  hc rfl rfl ?_
    have hb := (zwp_bnd h).1
    replace h := (zwp_bnd h).2
    refine z_lastore (pc' := 12) (g := (J 107)) (K' := [(53, some 2, fun _ => o8), (107, none, (vp_updL ((J 107)) (0 : Int32).toNatClampNeg r12.toInt64))]) hc rfl rfl sh_107 hb rfl rfl rfl rfl ?_
    refine g_goto hc rfl ?_
    refine g_iconst (pc' := 24) (v := (0 : Int32)) hc rfl zki_0 rfl ?_
    replace h := zws h
    exact g_ireturn hc rfl rfl rfl (fun _ => ⟨rfl, rfl⟩) h
  · by_cases hE : E13 = x_N
    · replace h := zwp_t h hE
      replace h := zws h
      exact z_poh (L' := [(14, none, o10), (17, none, o11), (52, none, o9), (53, some 0, fun _ => o4), (53, some 1, fun _ => o6), (53, some 3, fun _ => o2), (54, none, o1), (55, none, o7), (56, none, o3), (57, none, o5)]) (K' := [(53, some 2, fun _ => o8), (107, none, (J 107))]) (zhd2a (e := 12) (pc := 7) rfl hE) rfl rfl rfl rfl rfl rfl rfl rfl h
    replace h := zwp_f h hE
    have hN := hE
    by_cases hE : E13 = x_I
    · replace h := zwp_t h hE
      replace h := zws h
      exact z_poh (L' := [(14, none, o10), (17, none, o11), (52, none, o9), (53, some 0, fun _ => o4), (53, some 1, fun _ => o6), (53, some 3, fun _ => o2), (54, none, o1), (55, none, o7), (56, none, o3), (57, none, o5)]) (K' := [(53, some 2, fun _ => o8), (107, none, (J 107))]) (zhd2b (e := 12) (pc := 7) rfl hN hE) rfl rfl rfl rfl rfl rfl rfl rfl h
    replace h := zwp_f h hE
    exact (zwn h).elim
set_option maxRecDepth 4000 in
theorem ok_X11_comes_0_p {I : pI} {J : pJ} {a1 : Int32} {a2 : Int32} {Q : pQ} {d : Nat} (hd : 8 ≤ d) (h : zwp (f_X11_comes a1 a2 (I 54) (I 53 3) (I 56) (I 53 0) (I 57) (I 53 1) (I 55) (J 53 2) (I 52) (I 32) (I 31 3) (I 34) (I 31 0) (I 35) (I 31 1) (I 33) (J 31 2) (I 7 12) (I 7 3) (I 15) (I 13 2) (I 14) (I 7 1) (I 18) (I 16 2) (I 17) (I 12) (I 7 9) (I 9) (I 10) (I 7 0)) (fun w => match w with | (.inl r, o0, o1, o2, o3, o4, o5, o6, o7, o8, o9, o10) => Q (.inl (some (.int r))) (zS 7 19 I [(14, none, o9), (17, none, o10), (52, none, o8), (53, some 0, fun _ => o3), (53, some 1, fun _ => o5), (53, some 3, fun _ => o1), (54, none, o0), (55, none, o6), (56, none, o2), (57, none, o4)] J [(53, some 2, fun _ => o7)]) | (.inr E, o0, o1, o2, o3, o4, o5, o6, o7, o8, o9, o10) => Q (.inr E) (zS 7 19 I [(14, none, o9), (17, none, o10), (52, none, o8), (53, some 0, fun _ => o3), (53, some 1, fun _ => o5), (53, some 3, fun _ => o1), (54, none, o0), (55, none, o6), (56, none, o2), (57, none, o4)] J [(53, some 2, fun _ => o7)]))) : pm_call M cost zext d 110 [.ref 0, .int a1, .int a2] (pm_st 108 (shp 7 19) I J) Q := by
  obtain ⟨d, rfl⟩ := zd1 hd rfl
  have hc := pm_call_m (M := M) (cost := cost) zext_m d
  refine z_in (L := [(14, none, (I 14)), (17, none, (I 17)), (52, none, (I 52)), (53, some 0, fun _ => (I 53 0)), (53, some 1, fun _ => (I 53 1)), (53, some 3, fun _ => (I 53 3)), (54, none, (I 54)), (55, none, (I 55)), (56, none, (I 56)), (57, none, (I 57))]) (K := [(53, some 2, fun _ => (J 53 2))]) (ls := [some (.ref 0), some (.int a1), some (.int a2), none]) zmt_110 zco_110 rfl rfl (zid_a (zid_a (zid_a (zid_s (zid_s (zid_s (zid_a (zid_a (zid_a (zid_a zid_n)))))))))) (zid_s zid_n) ?_
  delta f_X11_comes at h
  refine g_aload_n (pc' := 1)  hc rfl rfl rfl rfl ?_
  refine g_iload_n (pc' := 2)  hc rfl rfl rfl ?_
  refine z_virt (as := [.int a1]) (a := 0) (r := []) hc rfl rfl rfl rfl sh_0 rfl zco_133 rfl rfl rfl ?_
  refine ok_X11_checkFigure_0_p (zdp hd rfl) (zwp_mono (zwp_bind h) ?_)
  rintro (⟨⟩ | E1) h
  · refine z_po (pc' := 5) (st' := []) (v := none) (L' := [(14, none, (I 14)), (17, none, (I 17)), (52, none, (I 52)), (53, some 0, fun _ => (I 53 0)), (53, some 1, fun _ => (I 53 1)), (53, some 3, fun _ => (I 53 3)), (54, none, (I 54)), (55, none, (I 55)), (56, none, (I 56)), (57, none, (I 57))]) (K' := [(53, some 2, fun _ => (J 53 2))]) zco_133 rfl rfl rfl rfl rfl rfl rfl rfl ?_
    refine g_aload_n (pc' := 6)  hc rfl rfl rfl rfl ?_
    refine g_iload_n (pc' := 7)  hc rfl rfl rfl ?_
    refine z_virt (as := [.int a2]) (a := 0) (r := []) hc rfl rfl rfl rfl sh_0 rfl zco_134 rfl rfl rfl ?_
    refine ok_X11_checkCell_0_p (zdp hd rfl) (zwp_mono (zwp_bind h) ?_)
    rintro (⟨⟩ | E2) h
    · refine z_po (pc' := 10) (st' := []) (v := none) (L' := [(14, none, (I 14)), (17, none, (I 17)), (52, none, (I 52)), (53, some 0, fun _ => (I 53 0)), (53, some 1, fun _ => (I 53 1)), (53, some 3, fun _ => (I 53 3)), (54, none, (I 54)), (55, none, (I 55)), (56, none, (I 56)), (57, none, (I 57))]) (K' := [(53, some 2, fun _ => (J 53 2))]) zco_134 rfl rfl rfl rfl rfl rfl rfl rfl ?_
      refine g_aload_n (pc' := 11)  hc rfl rfl rfl rfl ?_
      refine g_iconst (pc' := 12) (v := (0 : Int32)) hc rfl zki_0 rfl ?_
      refine z_virt (as := [.int (0 : Int32)]) (a := 0) (r := []) hc rfl rfl rfl rfl sh_0 rfl zco_139 rfl rfl rfl ?_
      refine ok_X11_foresee_0_p (zdp hd rfl) (zwp_mono (zwp_bind h) ?_)
      rintro ⟨o3, o4, o5, o6, o7, o8, o9, o10, o11, o12, o13⟩ h
      refine z_po (pc' := 15) (st' := []) (v := none) (L' := [(14, none, o12), (17, none, o13), (52, none, o11), (53, some 0, fun _ => o6), (53, some 1, fun _ => o8), (53, some 3, fun _ => o4), (54, none, o3), (55, none, o9), (56, none, o5), (57, none, o7)]) (K' := [(53, some 2, fun _ => o10)]) zco_139 rfl rfl rfl rfl rfl rfl rfl rfl ?_
      refine g_iconst (pc' := 16) (v := (0 : Int32)) hc rfl zki_0 rfl ?_
      refine g_istore_n (pc' := 17) (ls1 := [some (.ref 0), some (.int a1), some (.int a2), some (.int (0 : Int32))]) hc rfl (zlt rfl) rfl rfl ?_
      refine zjs (G := (fun (g : (Nat → Int32) × (Nat → Int32) × Int32 × (Nat → Int32) × (Nat → Int32) × (Nat → Int32) × (Nat → Int32)) => match g with | (y23, y24, y25, y26, y27, y28, y29) => ∀ z22 : Option Value, znl z22 = true → pm_ev C_X11_comes (d + 1) (pm_call M cost zext d) cost (false, false) 108 1 6 Q 48 [some (.ref 0), some (.int a1), some (.int a2), z22] [] 0 0 (zS 7 19 I [(14, none, y28), (17, none, y29), (52, none, y27), (53, some 0, fun _ => y25), (53, some 1, fun _ => o8), (53, some 3, fun _ => o4), (54, none, y23), (55, none, y26), (56, none, y24), (57, none, o7)] J [(53, some 2, fun _ => o10)]))) h ?_ (fun h => ?_)
      · rintro ⟨y23, y24, y25, y26, y27, y28, y29⟩ h z22 hz22
        refine g_iconst (pc' := 49) (v := (-1 : Int32)) hc rfl zki_m1 rfl ?_
        replace h := zws h
        exact g_ireturn hc rfl rfl rfl (fun _ => ⟨rfl, rfl⟩) h
      refine zitr_ev (G := (fun (g : Int32 × (Nat → Int32) × (Nat → Int32) × Int32 × (Nat → Int32) × (Nat → Int32) × (Nat → Int32) × (Nat → Int32)) => match g with | (x14, x15, x16, x17, x18, x19, x20, x21) => pm_ev C_X11_comes (d + 1) (pm_call M cost zext d) cost (false, false) 108 1 6 Q 17 [some (.ref 0), some (.int a1), some (.int a2), some (.int x14)] [] 0 0 (zS 7 19 I [(14, none, x20), (17, none, x21), (52, none, x19), (53, some 0, fun _ => x17), (53, some 1, fun _ => o8), (53, some 3, fun _ => o4), (54, none, x15), (55, none, x18), (56, none, x16), (57, none, o7)] J [(53, some 2, fun _ => o10)]))) ?_ zFU ((0 : Int32), o3, o5, o6, o9, o11, o12, o13) h
      rintro ⟨x14, x15, x16, x17, x18, x19, x20, x21⟩ h
      refine g_iload_n (pc' := 18)  hc rfl rfl rfl ?_
      refine g_bipush (pc' := 20) (v := (100 : Int32)) hc rfl zkb_100 rfl ?_
      refine g_icmp_gt (pc' := 23) hc rfl rfl (fun hx => ?_) (fun hx => ?_)
      · replace h := zwp_t h hx
        replace h := zwp_r h
        exact h (some (.int x14)) rfl
      · replace h := zwp_f h hx
        refine g_aload_n (pc' := 24)  hc rfl rfl rfl rfl ?_
        refine z_getR (pc' := 27)  hc rfl rfl rfl sh_0 rfl rfl ?_
        refine z_getR (pc' := 30)  hc rfl rfl rfl sh_53 rfl rfl ?_
        refine g_iload_n (pc' := 31)  hc rfl rfl rfl ?_
        have hb := (zwp_bnd h).1
        replace h := (zwp_bnd h).2
        refine z_iaload (pc' := 32) (v := (x15 a1.toNatClampNeg)) hc rfl rfl sh_54 hb rfl rfl ?_
        refine g_iload_n (pc' := 33)  hc rfl rfl rfl ?_
        refine g_icmp_ne (pc' := 36) hc rfl rfl (fun hx => ?_) (fun hx => ?_)
        · replace h := zwp_f h hx
          refine g_aload_n (pc' := 39)  hc rfl rfl rfl rfl ?_
          refine z_virt (as := []) (a := 0) (r := []) hc rfl rfl rfl rfl sh_0 rfl zco_140 rfl rfl rfl ?_
          refine ok_X11_passFuture_0_p (zdp hd rfl) (zwp_mono (zwp_bind h) ?_)
          rintro ⟨o30, o31, o32, o33, o34, o35, o36⟩ h
          refine z_po (pc' := 42) (st' := []) (v := none) (L' := [(14, none, o35), (17, none, o36), (52, none, o34), (53, some 0, fun _ => o32), (53, some 1, fun _ => o8), (53, some 3, fun _ => o4), (54, none, o30), (55, none, o33), (56, none, o31), (57, none, o7)]) (K' := [(53, some 2, fun _ => o10)]) zco_140 rfl rfl rfl rfl rfl rfl rfl rfl ?_
          refine g_iinc (pc' := 45) (ls1 := [some (.ref 0), some (.int a1), some (.int a2), some (.int (x14 + (1 : Int32)))]) hc rfl rfl zki_1 (zlt rfl) rfl rfl ?_
          refine g_goto hc rfl ?_
          replace h := zwp_l h
          exact h
        · replace h := zwp_t h hx
          refine g_iload_n (pc' := 37)  hc rfl rfl rfl ?_
          replace h := zws h
          exact g_ireturn hc rfl rfl rfl (fun _ => ⟨rfl, rfl⟩) h
    · replace h := zws h
      exact z_pox (L' := [(14, none, (I 14)), (17, none, (I 17)), (52, none, (I 52)), (53, some 0, fun _ => (I 53 0)), (53, some 1, fun _ => (I 53 1)), (53, some 3, fun _ => (I 53 3)), (54, none, (I 54)), (55, none, (I 55)), (56, none, (I 56)), (57, none, (I 57))]) (K' := [(53, some 2, fun _ => (J 53 2))]) rfl rfl rfl rfl rfl rfl rfl h
  · replace h := zws h
    exact z_pox (L' := [(14, none, (I 14)), (17, none, (I 17)), (52, none, (I 52)), (53, some 0, fun _ => (I 53 0)), (53, some 1, fun _ => (I 53 1)), (53, some 3, fun _ => (I 53 3)), (54, none, (I 54)), (55, none, (I 55)), (56, none, (I 56)), (57, none, (I 57))]) (K' := [(53, some 2, fun _ => (J 53 2))]) rfl rfl rfl rfl rfl rfl rfl h
set_option maxRecDepth 4000 in
theorem ok_L_comes_0_107_p {I : pI} {J : pJ} {a1 : Int32} {a2 : Int32} {Q : pQ} {d : Nat} (hd : 9 ≤ d) (h : zwp (f_L_comes a1 a2 1 (J 107) (I 54) (I 53 3) (I 56) (I 53 0) (I 57) (I 53 1) (I 55) (J 53 2) (I 52) (I 32) (I 31 3) (I 34) (I 31 0) (I 35) (I 31 1) (I 33) (J 31 2) (I 7 12) (I 7 3) (I 15) (I 13 2) (I 14) (I 7 1) (I 18) (I 16 2) (I 17) (I 12) (I 7 9) (I 9) (I 10) (I 7 0)) (fun w => match w with | (r, o0, o1, o2, o3, o4, o5, o6, o7, o8, o9, o10, o11) => Q (.inl (some (.int r))) (zS 7 19 I [(14, none, o10), (17, none, o11), (52, none, o9), (53, some 0, fun _ => o4), (53, some 1, fun _ => o6), (53, some 3, fun _ => o2), (54, none, o1), (55, none, o7), (56, none, o3), (57, none, o5)] J [(53, some 2, fun _ => o8), (107, none, o0)]))) : pm_call M cost zext d 281 [.ref 0, .int a1, .int a2, .ref 107] (pm_st 108 (shp 7 19) I J) Q := by
  obtain ⟨d, rfl⟩ := zd1 hd rfl
  have hc := pm_call_m (M := M) (cost := cost) zext_m d
  refine z_in (L := [(14, none, (I 14)), (17, none, (I 17)), (52, none, (I 52)), (53, some 0, fun _ => (I 53 0)), (53, some 1, fun _ => (I 53 1)), (53, some 3, fun _ => (I 53 3)), (54, none, (I 54)), (55, none, (I 55)), (56, none, (I 56)), (57, none, (I 57))]) (K := [(53, some 2, fun _ => (J 53 2)), (107, none, (J 107))]) (ls := [some (.ref 0), some (.int a1), some (.int a2), some (.ref 107), none]) zmt_281 zco_281 rfl rfl (zid_a (zid_a (zid_a (zid_s (zid_s (zid_s (zid_a (zid_a (zid_a (zid_a zid_n)))))))))) (zid_s (zid_a zid_n)) ?_
  delta f_L_comes at h
  refine g_aload_n (pc' := 1)  hc rfl rfl rfl rfl ?_
  refine g_iconst (pc' := 2) (v := (0 : Int32)) hc rfl zki_0 rfl ?_
  refine g_aload_n (pc' := 3)  hc rfl rfl rfl rfl ?_
  refine g_iload_n (pc' := 4)  hc rfl rfl rfl ?_
  refine g_iload_n (pc' := 5)  hc rfl rfl rfl ?_
  refine z_virt (as := [.int a1, .int a2]) (a := 0) (r := [.int (0 : Int32), .ref 107]) hc rfl rfl rfl rfl sh_0 rfl zco_110 rfl rfl rfl ?_
  refine ok_X11_comes_0_p (zdp hd rfl) (zwp_mono (zwp_bind h) ?_)
  rintro ⟨(r12 | E13), o1, o2, o3, o4, o5, o6, o7, o8, o9, o10, o11⟩ h
  · refine z_po (pc' := 8) (st' := [.int r12, .int (0 : Int32), .ref 107]) (v := (some (.int r12))) (L' := [(14, none, o10), (17, none, o11), (52, none, o9), (53, some 0, fun _ => o4), (53, some 1, fun _ => o6), (53, some 3, fun _ => o2), (54, none, o1), (55, none, o7), (56, none, o3), (57, none, o5)]) (K' := [(53, some 2, fun _ => o8), (107, none, (J 107))]) zco_110 rfl rfl rfl rfl rfl rfl rfl rfl ?_
    refine g_i2l (pc' := 9)  hc rfl rfl ?_
    have hb := (zwp_bnd h).1
    replace h := (zwp_bnd h).2
    refine z_lastore (pc' := 10) (g := (J 107)) (K' := [(53, some 2, fun _ => o8), (107, none, (vp_updL ((J 107)) (0 : Int32).toNatClampNeg r12.toInt64))]) hc rfl rfl sh_107 hb rfl rfl rfl rfl ?_
    refine g_goto hc rfl ?_
    refine g_iconst (pc' := 18) (v := (0 : Int32)) hc rfl zki_0 rfl ?_
    replace h := zws h
    exact g_ireturn hc rfl rfl rfl (fun _ => ⟨rfl, rfl⟩) h
  · by_cases hE : E13 = x_N
    · replace h := zwp_t h hE
      replace h := zws h
      exact z_poh (L' := [(14, none, o10), (17, none, o11), (52, none, o9), (53, some 0, fun _ => o4), (53, some 1, fun _ => o6), (53, some 3, fun _ => o2), (54, none, o1), (55, none, o7), (56, none, o3), (57, none, o5)]) (K' := [(53, some 2, fun _ => o8), (107, none, (J 107))]) (zhd1 (e := 10) (pc := 5) rfl hE) rfl rfl rfl rfl rfl rfl rfl rfl h
    replace h := zwp_f h hE
    exact (zwn h).elim
set_option maxRecDepth 4000 in
theorem ok_X11_meet_0_p {I : pI} {J : pJ} {a1 : Int32} {a2 : Int32} {Q : pQ} {d : Nat} (hd : 8 ≤ d) (h : zwp (f_X11_meet a1 a2 (I 54) (I 53 3) (I 56) (I 53 0) (I 57) (I 53 1) (I 55) (J 53 2) (I 52) (I 32) (I 31 3) (I 34) (I 31 0) (I 35) (I 31 1) (I 33) (J 31 2) (I 7 12) (I 7 3) (I 15) (I 13 2) (I 14) (I 7 1) (I 18) (I 16 2) (I 17) (I 12) (I 7 9) (I 9) (I 10) (I 7 0)) (fun w => match w with | (.inl r, o0, o1, o2, o3, o4, o5, o6, o7, o8, o9, o10) => Q (.inl (some (.int r))) (zS 7 19 I [(14, none, o9), (17, none, o10), (52, none, o8), (53, some 0, fun _ => o3), (53, some 1, fun _ => o5), (53, some 3, fun _ => o1), (54, none, o0), (55, none, o6), (56, none, o2), (57, none, o4)] J [(53, some 2, fun _ => o7)]) | (.inr E, o0, o1, o2, o3, o4, o5, o6, o7, o8, o9, o10) => Q (.inr E) (zS 7 19 I [(14, none, o9), (17, none, o10), (52, none, o8), (53, some 0, fun _ => o3), (53, some 1, fun _ => o5), (53, some 3, fun _ => o1), (54, none, o0), (55, none, o6), (56, none, o2), (57, none, o4)] J [(53, some 2, fun _ => o7)]))) : pm_call M cost zext d 111 [.ref 0, .int a1, .int a2] (pm_st 108 (shp 7 19) I J) Q := by
  obtain ⟨d, rfl⟩ := zd1 hd rfl
  have hc := pm_call_m (M := M) (cost := cost) zext_m d
  refine z_in (L := [(14, none, (I 14)), (17, none, (I 17)), (52, none, (I 52)), (53, some 0, fun _ => (I 53 0)), (53, some 1, fun _ => (I 53 1)), (53, some 3, fun _ => (I 53 3)), (54, none, (I 54)), (55, none, (I 55)), (56, none, (I 56)), (57, none, (I 57))]) (K := [(53, some 2, fun _ => (J 53 2))]) (ls := [some (.ref 0), some (.int a1), some (.int a2), none]) zmt_111 zco_111 rfl rfl (zid_a (zid_a (zid_a (zid_s (zid_s (zid_s (zid_a (zid_a (zid_a (zid_a zid_n)))))))))) (zid_s zid_n) ?_
  delta f_X11_meet at h
  refine g_aload_n (pc' := 1)  hc rfl rfl rfl rfl ?_
  refine g_iload_n (pc' := 2)  hc rfl rfl rfl ?_
  refine z_virt (as := [.int a1]) (a := 0) (r := []) hc rfl rfl rfl rfl sh_0 rfl zco_133 rfl rfl rfl ?_
  refine ok_X11_checkFigure_0_p (zdp hd rfl) (zwp_mono (zwp_bind h) ?_)
  rintro (⟨⟩ | E1) h
  · refine z_po (pc' := 5) (st' := []) (v := none) (L' := [(14, none, (I 14)), (17, none, (I 17)), (52, none, (I 52)), (53, some 0, fun _ => (I 53 0)), (53, some 1, fun _ => (I 53 1)), (53, some 3, fun _ => (I 53 3)), (54, none, (I 54)), (55, none, (I 55)), (56, none, (I 56)), (57, none, (I 57))]) (K' := [(53, some 2, fun _ => (J 53 2))]) zco_133 rfl rfl rfl rfl rfl rfl rfl rfl ?_
    refine g_aload_n (pc' := 6)  hc rfl rfl rfl rfl ?_
    refine g_iload_n (pc' := 7)  hc rfl rfl rfl ?_
    refine z_virt (as := [.int a2]) (a := 0) (r := []) hc rfl rfl rfl rfl sh_0 rfl zco_133 rfl rfl rfl ?_
    refine ok_X11_checkFigure_0_p (zdp hd rfl) (zwp_mono (zwp_bind h) ?_)
    rintro (⟨⟩ | E2) h
    · refine z_po (pc' := 10) (st' := []) (v := none) (L' := [(14, none, (I 14)), (17, none, (I 17)), (52, none, (I 52)), (53, some 0, fun _ => (I 53 0)), (53, some 1, fun _ => (I 53 1)), (53, some 3, fun _ => (I 53 3)), (54, none, (I 54)), (55, none, (I 55)), (56, none, (I 56)), (57, none, (I 57))]) (K' := [(53, some 2, fun _ => (J 53 2))]) zco_133 rfl rfl rfl rfl rfl rfl rfl rfl ?_
      refine g_iload_n (pc' := 11)  hc rfl rfl rfl ?_
      refine g_iload_n (pc' := 12)  hc rfl rfl rfl ?_
      refine g_icmp_ne (pc' := 15) hc rfl rfl (fun hx => ?_) (fun hx => ?_)
      · replace h := zwp_f h hx
        refine g_aload_n (pc' := 18)  hc rfl rfl rfl rfl ?_
        refine g_iconst (pc' := 19) (v := (0 : Int32)) hc rfl zki_0 rfl ?_
        refine z_virt (as := [.int (0 : Int32)]) (a := 0) (r := []) hc rfl rfl rfl rfl sh_0 rfl zco_139 rfl rfl rfl ?_
        refine ok_X11_foresee_0_p (zdp hd rfl) (zwp_mono (zwp_bind h) ?_)
        rintro ⟨o3, o4, o5, o6, o7, o8, o9, o10, o11, o12, o13⟩ h
        refine z_po (pc' := 22) (st' := []) (v := none) (L' := [(14, none, o12), (17, none, o13), (52, none, o11), (53, some 0, fun _ => o6), (53, some 1, fun _ => o8), (53, some 3, fun _ => o4), (54, none, o3), (55, none, o9), (56, none, o5), (57, none, o7)]) (K' := [(53, some 2, fun _ => o10)]) zco_139 rfl rfl rfl rfl rfl rfl rfl rfl ?_
        refine g_iconst (pc' := 23) (v := (0 : Int32)) hc rfl zki_0 rfl ?_
        refine g_istore_n (pc' := 24) (ls1 := [some (.ref 0), some (.int a1), some (.int a2), some (.int (0 : Int32))]) hc rfl (zlt rfl) rfl rfl ?_
        refine zjs (G := (fun (g : (Nat → Int32) × (Nat → Int32) × Int32 × (Nat → Int32) × (Nat → Int32) × (Nat → Int32) × (Nat → Int32)) => match g with | (y23, y24, y25, y26, y27, y28, y29) => ∀ z22 : Option Value, znl z22 = true → pm_ev C_X11_meet (d + 1) (pm_call M cost zext d) cost (false, false) 108 1 6 Q 63 [some (.ref 0), some (.int a1), some (.int a2), z22] [] 0 0 (zS 7 19 I [(14, none, y28), (17, none, y29), (52, none, y27), (53, some 0, fun _ => y25), (53, some 1, fun _ => o8), (53, some 3, fun _ => o4), (54, none, y23), (55, none, y26), (56, none, y24), (57, none, o7)] J [(53, some 2, fun _ => o10)]))) h ?_ (fun h => ?_)
        · rintro ⟨y23, y24, y25, y26, y27, y28, y29⟩ h z22 hz22
          refine g_iconst (pc' := 64) (v := (-1 : Int32)) hc rfl zki_m1 rfl ?_
          replace h := zws h
          exact g_ireturn hc rfl rfl rfl (fun _ => ⟨rfl, rfl⟩) h
        refine zitr_ev (G := (fun (g : Int32 × (Nat → Int32) × (Nat → Int32) × Int32 × (Nat → Int32) × (Nat → Int32) × (Nat → Int32) × (Nat → Int32)) => match g with | (x14, x15, x16, x17, x18, x19, x20, x21) => pm_ev C_X11_meet (d + 1) (pm_call M cost zext d) cost (false, false) 108 1 6 Q 24 [some (.ref 0), some (.int a1), some (.int a2), some (.int x14)] [] 0 0 (zS 7 19 I [(14, none, x20), (17, none, x21), (52, none, x19), (53, some 0, fun _ => x17), (53, some 1, fun _ => o8), (53, some 3, fun _ => o4), (54, none, x15), (55, none, x18), (56, none, x16), (57, none, o7)] J [(53, some 2, fun _ => o10)]))) ?_ zFU ((0 : Int32), o3, o5, o6, o9, o11, o12, o13) h
        rintro ⟨x14, x15, x16, x17, x18, x19, x20, x21⟩ h
        refine g_iload_n (pc' := 25)  hc rfl rfl rfl ?_
        refine g_bipush (pc' := 27) (v := (100 : Int32)) hc rfl zkb_100 rfl ?_
        refine g_icmp_gt (pc' := 30) hc rfl rfl (fun hx => ?_) (fun hx => ?_)
        · replace h := zwp_t h hx
          replace h := zwp_r h
          exact h (some (.int x14)) rfl
        · replace h := zwp_f h hx
          refine g_aload_n (pc' := 31)  hc rfl rfl rfl rfl ?_
          refine z_getR (pc' := 34)  hc rfl rfl rfl sh_0 rfl rfl ?_
          refine z_getR (pc' := 37)  hc rfl rfl rfl sh_53 rfl rfl ?_
          refine g_iload_n (pc' := 38)  hc rfl rfl rfl ?_
          have hb := (zwp_bnd h).1
          replace h := (zwp_bnd h).2
          refine z_iaload (pc' := 39) (v := (x15 a1.toNatClampNeg)) hc rfl rfl sh_54 hb rfl rfl ?_
          refine g_aload_n (pc' := 40)  hc rfl rfl rfl rfl ?_
          refine z_getR (pc' := 43)  hc rfl rfl rfl sh_0 rfl rfl ?_
          refine z_getR (pc' := 46)  hc rfl rfl rfl sh_53 rfl rfl ?_
          refine g_iload_n (pc' := 47)  hc rfl rfl rfl ?_
          have hb := (zwp_bnd h).1
          replace h := (zwp_bnd h).2
          refine z_iaload (pc' := 48) (v := (x15 a2.toNatClampNeg)) hc rfl rfl sh_54 hb rfl rfl ?_
          refine g_icmp_ne (pc' := 51) hc rfl rfl (fun hx => ?_) (fun hx => ?_)
          · replace h := zwp_f h hx
            refine g_aload_n (pc' := 54)  hc rfl rfl rfl rfl ?_
            refine z_virt (as := []) (a := 0) (r := []) hc rfl rfl rfl rfl sh_0 rfl zco_140 rfl rfl rfl ?_
            refine ok_X11_passFuture_0_p (zdp hd rfl) (zwp_mono (zwp_bind h) ?_)
            rintro ⟨o30, o31, o32, o33, o34, o35, o36⟩ h
            refine z_po (pc' := 57) (st' := []) (v := none) (L' := [(14, none, o35), (17, none, o36), (52, none, o34), (53, some 0, fun _ => o32), (53, some 1, fun _ => o8), (53, some 3, fun _ => o4), (54, none, o30), (55, none, o33), (56, none, o31), (57, none, o7)]) (K' := [(53, some 2, fun _ => o10)]) zco_140 rfl rfl rfl rfl rfl rfl rfl rfl ?_
            refine g_iinc (pc' := 60) (ls1 := [some (.ref 0), some (.int a1), some (.int a2), some (.int (x14 + (1 : Int32)))]) hc rfl rfl zki_1 (zlt rfl) rfl rfl ?_
            refine g_goto hc rfl ?_
            replace h := zwp_l h
            exact h
          · replace h := zwp_t h hx
            refine g_iload_n (pc' := 52)  hc rfl rfl rfl ?_
            replace h := zws h
            exact g_ireturn hc rfl rfl rfl (fun _ => ⟨rfl, rfl⟩) h
      · replace h := zwp_t h hx
        refine g_iconst (pc' := 16) (v := (-1 : Int32)) hc rfl zki_m1 rfl ?_
        replace h := zws h
        exact g_ireturn hc rfl rfl rfl (fun _ => ⟨rfl, rfl⟩) h
    · replace h := zws h
      exact z_pox (L' := [(14, none, (I 14)), (17, none, (I 17)), (52, none, (I 52)), (53, some 0, fun _ => (I 53 0)), (53, some 1, fun _ => (I 53 1)), (53, some 3, fun _ => (I 53 3)), (54, none, (I 54)), (55, none, (I 55)), (56, none, (I 56)), (57, none, (I 57))]) (K' := [(53, some 2, fun _ => (J 53 2))]) rfl rfl rfl rfl rfl rfl rfl h
  · replace h := zws h
    exact z_pox (L' := [(14, none, (I 14)), (17, none, (I 17)), (52, none, (I 52)), (53, some 0, fun _ => (I 53 0)), (53, some 1, fun _ => (I 53 1)), (53, some 3, fun _ => (I 53 3)), (54, none, (I 54)), (55, none, (I 55)), (56, none, (I 56)), (57, none, (I 57))]) (K' := [(53, some 2, fun _ => (J 53 2))]) rfl rfl rfl rfl rfl rfl rfl h
set_option maxRecDepth 4000 in
theorem ok_L_meet_0_107_p {I : pI} {J : pJ} {a1 : Int32} {a2 : Int32} {Q : pQ} {d : Nat} (hd : 9 ≤ d) (h : zwp (f_L_meet a1 a2 1 (J 107) (I 54) (I 53 3) (I 56) (I 53 0) (I 57) (I 53 1) (I 55) (J 53 2) (I 52) (I 32) (I 31 3) (I 34) (I 31 0) (I 35) (I 31 1) (I 33) (J 31 2) (I 7 12) (I 7 3) (I 15) (I 13 2) (I 14) (I 7 1) (I 18) (I 16 2) (I 17) (I 12) (I 7 9) (I 9) (I 10) (I 7 0)) (fun w => match w with | (r, o0, o1, o2, o3, o4, o5, o6, o7, o8, o9, o10, o11) => Q (.inl (some (.int r))) (zS 7 19 I [(14, none, o10), (17, none, o11), (52, none, o9), (53, some 0, fun _ => o4), (53, some 1, fun _ => o6), (53, some 3, fun _ => o2), (54, none, o1), (55, none, o7), (56, none, o3), (57, none, o5)] J [(53, some 2, fun _ => o8), (107, none, o0)]))) : pm_call M cost zext d 282 [.ref 0, .int a1, .int a2, .ref 107] (pm_st 108 (shp 7 19) I J) Q := by
  obtain ⟨d, rfl⟩ := zd1 hd rfl
  have hc := pm_call_m (M := M) (cost := cost) zext_m d
  refine z_in (L := [(14, none, (I 14)), (17, none, (I 17)), (52, none, (I 52)), (53, some 0, fun _ => (I 53 0)), (53, some 1, fun _ => (I 53 1)), (53, some 3, fun _ => (I 53 3)), (54, none, (I 54)), (55, none, (I 55)), (56, none, (I 56)), (57, none, (I 57))]) (K := [(53, some 2, fun _ => (J 53 2)), (107, none, (J 107))]) (ls := [some (.ref 0), some (.int a1), some (.int a2), some (.ref 107), none]) zmt_282 zco_282 rfl rfl (zid_a (zid_a (zid_a (zid_s (zid_s (zid_s (zid_a (zid_a (zid_a (zid_a zid_n)))))))))) (zid_s (zid_a zid_n)) ?_
  delta f_L_meet at h
  refine g_aload_n (pc' := 1)  hc rfl rfl rfl rfl ?_
  refine g_iconst (pc' := 2) (v := (0 : Int32)) hc rfl zki_0 rfl ?_
  refine g_aload_n (pc' := 3)  hc rfl rfl rfl rfl ?_
  refine g_iload_n (pc' := 4)  hc rfl rfl rfl ?_
  refine g_iload_n (pc' := 5)  hc rfl rfl rfl ?_
  refine z_virt (as := [.int a1, .int a2]) (a := 0) (r := [.int (0 : Int32), .ref 107]) hc rfl rfl rfl rfl sh_0 rfl zco_111 rfl rfl rfl ?_
  refine ok_X11_meet_0_p (zdp hd rfl) (zwp_mono (zwp_bind h) ?_)
  rintro ⟨(r12 | E13), o1, o2, o3, o4, o5, o6, o7, o8, o9, o10, o11⟩ h
  · refine z_po (pc' := 8) (st' := [.int r12, .int (0 : Int32), .ref 107]) (v := (some (.int r12))) (L' := [(14, none, o10), (17, none, o11), (52, none, o9), (53, some 0, fun _ => o4), (53, some 1, fun _ => o6), (53, some 3, fun _ => o2), (54, none, o1), (55, none, o7), (56, none, o3), (57, none, o5)]) (K' := [(53, some 2, fun _ => o8), (107, none, (J 107))]) zco_111 rfl rfl rfl rfl rfl rfl rfl rfl ?_
    refine g_i2l (pc' := 9)  hc rfl rfl ?_
    have hb := (zwp_bnd h).1
    replace h := (zwp_bnd h).2
    refine z_lastore (pc' := 10) (g := (J 107)) (K' := [(53, some 2, fun _ => o8), (107, none, (vp_updL ((J 107)) (0 : Int32).toNatClampNeg r12.toInt64))]) hc rfl rfl sh_107 hb rfl rfl rfl rfl ?_
    refine g_goto hc rfl ?_
    refine g_iconst (pc' := 18) (v := (0 : Int32)) hc rfl zki_0 rfl ?_
    replace h := zws h
    exact g_ireturn hc rfl rfl rfl (fun _ => ⟨rfl, rfl⟩) h
  · by_cases hE : E13 = x_N
    · replace h := zwp_t h hE
      replace h := zws h
      exact z_poh (L' := [(14, none, o10), (17, none, o11), (52, none, o9), (53, some 0, fun _ => o4), (53, some 1, fun _ => o6), (53, some 3, fun _ => o2), (54, none, o1), (55, none, o7), (56, none, o3), (57, none, o5)]) (K' := [(53, some 2, fun _ => o8), (107, none, (J 107))]) (zhd1 (e := 10) (pc := 5) rfl hE) rfl rfl rfl rfl rfl rfl rfl rfl h
    replace h := zwp_f h hE
    exact (zwn h).elim
set_option maxRecDepth 4000 in
theorem ok_X8_figuresAt_53 {p q : Nat} {I : pI} {J : pJ} {a1 : Int32} {Q : pQ} {d : Nat} (hd : 1 ≤ d) (h : zwp (f_X8_figuresAt a1 (I 54) (I 53 3)) (fun r => Q (.inl (some (.int r))) (zS p q I [] J []))) : pm_call M cost zext d 72 [.ref 53, .int a1] (pm_st 108 (shp p q) I J) Q := by
  obtain ⟨d, rfl⟩ := zd1 hd rfl
  have hc := pm_call_m (M := M) (cost := cost) zext_m d
  refine z_in (L := []) (K := []) (ls := [some (.ref 53), some (.int a1), none, none]) zmt_72 zco_72 rfl rfl zid_n zid_n ?_
  delta f_X8_figuresAt at h
  refine g_iconst (pc' := 1) (v := (0 : Int32)) hc rfl zki_0 rfl ?_
  refine g_istore_n (pc' := 2) (ls1 := [some (.ref 53), some (.int a1), some (.int (0 : Int32)), none]) hc rfl (zlt rfl) rfl rfl ?_
  refine g_iconst (pc' := 3) (v := (0 : Int32)) hc rfl zki_0 rfl ?_
  refine g_istore_n (pc' := 4) (ls1 := [some (.ref 53), some (.int a1), some (.int (0 : Int32)), some (.int (0 : Int32))]) hc rfl (zlt rfl) rfl rfl ?_
  refine zjn (G := (fun (y3 : Int32) => ∀ z4 : Option Value, znl z4 = true → pm_ev C_X8_figuresAt (d + 1) (pm_call M cost zext d) cost (false, false) 108 0 0 Q 34 [some (.ref 53), some (.int a1), some (.int y3), z4] [] 0 0 (zS p q I [] J []))) (zwp_bind h) ?_ (fun h => ?_)
  · rintro y3 h z4 hz4
    refine g_iload_n (pc' := 35)  hc rfl rfl rfl ?_
    replace h := zws h
    exact g_ireturn hc rfl rfl rfl (fun _ => ⟨rfl, rfl⟩) h
  refine zitr_ev (G := (fun (g : Int32 × Int32) => match g with | (x1, x2) => pm_ev C_X8_figuresAt (d + 1) (pm_call M cost zext d) cost (false, false) 108 0 0 Q 4 [some (.ref 53), some (.int a1), some (.int x1), some (.int x2)] [] 0 0 (zS p q I [] J []))) ?_ zFU ((0 : Int32), (0 : Int32)) h
  rintro ⟨x1, x2⟩ h
  refine g_iload_n (pc' := 5)  hc rfl rfl rfl ?_
  refine g_aload_n (pc' := 6)  hc rfl rfl rfl rfl ?_
  refine z_getI (pc' := 9) (v := (I 53 3)) hc rfl rfl rfl sh_53 rfl rfl rfl ?_
  refine g_icmp_ge (pc' := 12) hc rfl rfl (fun hx => ?_) (fun hx => ?_)
  · replace h := zwp_t h hx
    replace h := zwp_r h
    exact h (some (.int x2)) rfl
  · replace h := zwp_f h hx
    refine g_aload_n (pc' := 13)  hc rfl rfl rfl rfl ?_
    refine z_getR (pc' := 16)  hc rfl rfl rfl sh_53 rfl rfl ?_
    refine g_iload_n (pc' := 17)  hc rfl rfl rfl ?_
    have hb := (zwp_bnd h).1
    replace h := (zwp_bnd h).2
    refine z_iaload (pc' := 18) (v := (((I 54)) x2.toNatClampNeg)) hc rfl rfl sh_54 hb rfl rfl ?_
    refine g_iload_n (pc' := 19)  hc rfl rfl rfl ?_
    refine g_icmp_ne (pc' := 22) hc rfl rfl (fun hx => ?_) (fun hx => ?_)
    · replace h := zwp_f h hx
      refine g_iinc (pc' := 31) (ls1 := [some (.ref 53), some (.int a1), some (.int x1), some (.int (x2 + (1 : Int32)))]) hc rfl rfl zki_1 (zlt rfl) rfl rfl ?_
      refine g_goto hc rfl ?_
      replace h := zwp_l h
      exact h
    · replace h := zwp_t h hx
      refine g_iload_n (pc' := 23)  hc rfl rfl rfl ?_
      refine g_iconst (pc' := 24) (v := (1 : Int32)) hc rfl zki_1 rfl ?_
      refine g_iload_n (pc' := 25)  hc rfl rfl rfl ?_
      refine g_ishl (pc' := 26)  hc rfl rfl ?_
      refine g_ior (pc' := 27)  hc rfl rfl ?_
      refine g_istore_n (pc' := 28) (ls1 := [some (.ref 53), some (.int a1), some (.int (x1 ||| ((1 : Int32) <<< (x2 &&& 31)))), some (.int x2)]) hc rfl (zlt rfl) rfl rfl ?_
      refine g_iinc (pc' := 31) (ls1 := [some (.ref 53), some (.int a1), some (.int (x1 ||| ((1 : Int32) <<< (x2 &&& 31)))), some (.int (x2 + (1 : Int32)))]) hc rfl rfl zki_1 (zlt rfl) rfl rfl ?_
      refine g_goto hc rfl ?_
      replace h := zwp_l h
      exact h
set_option maxRecDepth 4000 in
theorem ok_J6_bitCount_0f7a4 {p q : Nat} {I : pI} {J : pJ} {a0 : Int32} {Q : pQ} {d : Nat} (hd : 1 ≤ d) (h : zwp (f_J6_bitCount_0f7a4 a0) (fun r => Q (.inl (some (.int r))) (zS p q I [] J []))) : pm_call M cost zext d 265 [.int a0] (pm_st 108 (shp p q) I J) Q := by
  obtain ⟨d, rfl⟩ := zd1 hd rfl
  have hc := pm_call_m (M := M) (cost := cost) zext_m d
  refine z_in (L := []) (K := []) (ls := [some (.int a0)]) zmt_265 zco_265 rfl rfl zid_n zid_n ?_
  delta f_J6_bitCount_0f7a4 at h
  refine g_iload_n (pc' := 1)  hc rfl rfl rfl ?_
  refine g_iload_n (pc' := 2)  hc rfl rfl rfl ?_
  refine g_iconst (pc' := 3) (v := (1 : Int32)) hc rfl zki_1 rfl ?_
  refine g_iushr (pc' := 4)  hc rfl rfl ?_
  refine g_ldc_w_i (pc' := 7) (v := (1431655765 : Int32)) hc rfl rfl rfl ?_
  refine g_iand (pc' := 8)  hc rfl rfl ?_
  refine g_isub (pc' := 9)  hc rfl rfl ?_
  refine g_istore_n (pc' := 10) (ls1 := [some (.int (a0 - (((a0.toUInt32 >>> ((1 : Int32).toUInt32 &&& Int32.toUInt32 31)).toInt32) &&& (1431655765 : Int32))))]) hc rfl (zlt rfl) rfl rfl ?_
  refine g_iload_n (pc' := 11)  hc rfl rfl rfl ?_
  refine g_ldc_w_i (pc' := 14) (v := (858993459 : Int32)) hc rfl rfl rfl ?_
  refine g_iand (pc' := 15)  hc rfl rfl ?_
  refine g_iload_n (pc' := 16)  hc rfl rfl rfl ?_
  refine g_iconst (pc' := 17) (v := (2 : Int32)) hc rfl zki_2 rfl ?_
  refine g_iushr (pc' := 18)  hc rfl rfl ?_
  refine g_ldc_w_i (pc' := 21) (v := (858993459 : Int32)) hc rfl rfl rfl ?_
  refine g_iand (pc' := 22)  hc rfl rfl ?_
  refine g_iadd (pc' := 23)  hc rfl rfl ?_
  refine g_istore_n (pc' := 24) (ls1 := [some (.int (((a0 - (((a0.toUInt32 >>> ((1 : Int32).toUInt32 &&& Int32.toUInt32 31)).toInt32) &&& (1431655765 : Int32))) &&& (858993459 : Int32)) + ((((a0 - (((a0.toUInt32 >>> ((1 : Int32).toUInt32 &&& Int32.toUInt32 31)).toInt32) &&& (1431655765 : Int32))).toUInt32 >>> ((2 : Int32).toUInt32 &&& Int32.toUInt32 31)).toInt32) &&& (858993459 : Int32))))]) hc rfl (zlt rfl) rfl rfl ?_
  refine g_iload_n (pc' := 25)  hc rfl rfl rfl ?_
  refine g_iload_n (pc' := 26)  hc rfl rfl rfl ?_
  refine g_iconst (pc' := 27) (v := (4 : Int32)) hc rfl zki_4 rfl ?_
  refine g_iushr (pc' := 28)  hc rfl rfl ?_
  refine g_iadd (pc' := 29)  hc rfl rfl ?_
  refine g_ldc_w_i (pc' := 32) (v := (252645135 : Int32)) hc rfl rfl rfl ?_
  refine g_iand (pc' := 33)  hc rfl rfl ?_
  refine g_istore_n (pc' := 34) (ls1 := [some (.int (((((a0 - (((a0.toUInt32 >>> ((1 : Int32).toUInt32 &&& Int32.toUInt32 31)).toInt32) &&& (1431655765 : Int32))) &&& (858993459 : Int32)) + ((((a0 - (((a0.toUInt32 >>> ((1 : Int32).toUInt32 &&& Int32.toUInt32 31)).toInt32) &&& (1431655765 : Int32))).toUInt32 >>> ((2 : Int32).toUInt32 &&& Int32.toUInt32 31)).toInt32) &&& (858993459 : Int32))) + (((((a0 - (((a0.toUInt32 >>> ((1 : Int32).toUInt32 &&& Int32.toUInt32 31)).toInt32) &&& (1431655765 : Int32))) &&& (858993459 : Int32)) + ((((a0 - (((a0.toUInt32 >>> ((1 : Int32).toUInt32 &&& Int32.toUInt32 31)).toInt32) &&& (1431655765 : Int32))).toUInt32 >>> ((2 : Int32).toUInt32 &&& Int32.toUInt32 31)).toInt32) &&& (858993459 : Int32))).toUInt32 >>> ((4 : Int32).toUInt32 &&& Int32.toUInt32 31)).toInt32)) &&& (252645135 : Int32)))]) hc rfl (zlt rfl) rfl rfl ?_
  refine g_iload_n (pc' := 35)  hc rfl rfl rfl ?_
  refine g_iload_n (pc' := 36)  hc rfl rfl rfl ?_
  refine g_bipush (pc' := 38) (v := (8 : Int32)) hc rfl zkb_8 rfl ?_
  refine g_iushr (pc' := 39)  hc rfl rfl ?_
  refine g_iadd (pc' := 40)  hc rfl rfl ?_
  refine g_istore_n (pc' := 41) (ls1 := [some (.int ((((((a0 - (((a0.toUInt32 >>> ((1 : Int32).toUInt32 &&& Int32.toUInt32 31)).toInt32) &&& (1431655765 : Int32))) &&& (858993459 : Int32)) + ((((a0 - (((a0.toUInt32 >>> ((1 : Int32).toUInt32 &&& Int32.toUInt32 31)).toInt32) &&& (1431655765 : Int32))).toUInt32 >>> ((2 : Int32).toUInt32 &&& Int32.toUInt32 31)).toInt32) &&& (858993459 : Int32))) + (((((a0 - (((a0.toUInt32 >>> ((1 : Int32).toUInt32 &&& Int32.toUInt32 31)).toInt32) &&& (1431655765 : Int32))) &&& (858993459 : Int32)) + ((((a0 - (((a0.toUInt32 >>> ((1 : Int32).toUInt32 &&& Int32.toUInt32 31)).toInt32) &&& (1431655765 : Int32))).toUInt32 >>> ((2 : Int32).toUInt32 &&& Int32.toUInt32 31)).toInt32) &&& (858993459 : Int32))).toUInt32 >>> ((4 : Int32).toUInt32 &&& Int32.toUInt32 31)).toInt32)) &&& (252645135 : Int32)) + (((((((a0 - (((a0.toUInt32 >>> ((1 : Int32).toUInt32 &&& Int32.toUInt32 31)).toInt32) &&& (1431655765 : Int32))) &&& (858993459 : Int32)) + ((((a0 - (((a0.toUInt32 >>> ((1 : Int32).toUInt32 &&& Int32.toUInt32 31)).toInt32) &&& (1431655765 : Int32))).toUInt32 >>> ((2 : Int32).toUInt32 &&& Int32.toUInt32 31)).toInt32) &&& (858993459 : Int32))) + (((((a0 - (((a0.toUInt32 >>> ((1 : Int32).toUInt32 &&& Int32.toUInt32 31)).toInt32) &&& (1431655765 : Int32))) &&& (858993459 : Int32)) + ((((a0 - (((a0.toUInt32 >>> ((1 : Int32).toUInt32 &&& Int32.toUInt32 31)).toInt32) &&& (1431655765 : Int32))).toUInt32 >>> ((2 : Int32).toUInt32 &&& Int32.toUInt32 31)).toInt32) &&& (858993459 : Int32))).toUInt32 >>> ((4 : Int32).toUInt32 &&& Int32.toUInt32 31)).toInt32)) &&& (252645135 : Int32)).toUInt32 >>> ((8 : Int32).toUInt32 &&& Int32.toUInt32 31)).toInt32)))]) hc rfl (zlt rfl) rfl rfl ?_
  refine g_iload_n (pc' := 42)  hc rfl rfl rfl ?_
  refine g_iload_n (pc' := 43)  hc rfl rfl rfl ?_
  refine g_bipush (pc' := 45) (v := (16 : Int32)) hc rfl zkb_16 rfl ?_
  refine g_iushr (pc' := 46)  hc rfl rfl ?_
  refine g_iadd (pc' := 47)  hc rfl rfl ?_
  refine g_istore_n (pc' := 48) (ls1 := [some (.int (((((((a0 - (((a0.toUInt32 >>> ((1 : Int32).toUInt32 &&& Int32.toUInt32 31)).toInt32) &&& (1431655765 : Int32))) &&& (858993459 : Int32)) + ((((a0 - (((a0.toUInt32 >>> ((1 : Int32).toUInt32 &&& Int32.toUInt32 31)).toInt32) &&& (1431655765 : Int32))).toUInt32 >>> ((2 : Int32).toUInt32 &&& Int32.toUInt32 31)).toInt32) &&& (858993459 : Int32))) + (((((a0 - (((a0.toUInt32 >>> ((1 : Int32).toUInt32 &&& Int32.toUInt32 31)).toInt32) &&& (1431655765 : Int32))) &&& (858993459 : Int32)) + ((((a0 - (((a0.toUInt32 >>> ((1 : Int32).toUInt32 &&& Int32.toUInt32 31)).toInt32) &&& (1431655765 : Int32))).toUInt32 >>> ((2 : Int32).toUInt32 &&& Int32.toUInt32 31)).toInt32) &&& (858993459 : Int32))).toUInt32 >>> ((4 : Int32).toUInt32 &&& Int32.toUInt32 31)).toInt32)) &&& (252645135 : Int32)) + (((((((a0 - (((a0.toUInt32 >>> ((1 : Int32).toUInt32 &&& Int32.toUInt32 31)).toInt32) &&& (1431655765 : Int32))) &&& (858993459 : Int32)) + ((((a0 - (((a0.toUInt32 >>> ((1 : Int32).toUInt32 &&& Int32.toUInt32 31)).toInt32) &&& (1431655765 : Int32))).toUInt32 >>> ((2 : Int32).toUInt32 &&& Int32.toUInt32 31)).toInt32) &&& (858993459 : Int32))) + (((((a0 - (((a0.toUInt32 >>> ((1 : Int32).toUInt32 &&& Int32.toUInt32 31)).toInt32) &&& (1431655765 : Int32))) &&& (858993459 : Int32)) + ((((a0 - (((a0.toUInt32 >>> ((1 : Int32).toUInt32 &&& Int32.toUInt32 31)).toInt32) &&& (1431655765 : Int32))).toUInt32 >>> ((2 : Int32).toUInt32 &&& Int32.toUInt32 31)).toInt32) &&& (858993459 : Int32))).toUInt32 >>> ((4 : Int32).toUInt32 &&& Int32.toUInt32 31)).toInt32)) &&& (252645135 : Int32)).toUInt32 >>> ((8 : Int32).toUInt32 &&& Int32.toUInt32 31)).toInt32)) + ((((((((a0 - (((a0.toUInt32 >>> ((1 : Int32).toUInt32 &&& Int32.toUInt32 31)).toInt32) &&& (1431655765 : Int32))) &&& (858993459 : Int32)) + ((((a0 - (((a0.toUInt32 >>> ((1 : Int32).toUInt32 &&& Int32.toUInt32 31)).toInt32) &&& (1431655765 : Int32))).toUInt32 >>> ((2 : Int32).toUInt32 &&& Int32.toUInt32 31)).toInt32) &&& (858993459 : Int32))) + (((((a0 - (((a0.toUInt32 >>> ((1 : Int32).toUInt32 &&& Int32.toUInt32 31)).toInt32) &&& (1431655765 : Int32))) &&& (858993459 : Int32)) + ((((a0 - (((a0.toUInt32 >>> ((1 : Int32).toUInt32 &&& Int32.toUInt32 31)).toInt32) &&& (1431655765 : Int32))).toUInt32 >>> ((2 : Int32).toUInt32 &&& Int32.toUInt32 31)).toInt32) &&& (858993459 : Int32))).toUInt32 >>> ((4 : Int32).toUInt32 &&& Int32.toUInt32 31)).toInt32)) &&& (252645135 : Int32)) + (((((((a0 - (((a0.toUInt32 >>> ((1 : Int32).toUInt32 &&& Int32.toUInt32 31)).toInt32) &&& (1431655765 : Int32))) &&& (858993459 : Int32)) + ((((a0 - (((a0.toUInt32 >>> ((1 : Int32).toUInt32 &&& Int32.toUInt32 31)).toInt32) &&& (1431655765 : Int32))).toUInt32 >>> ((2 : Int32).toUInt32 &&& Int32.toUInt32 31)).toInt32) &&& (858993459 : Int32))) + (((((a0 - (((a0.toUInt32 >>> ((1 : Int32).toUInt32 &&& Int32.toUInt32 31)).toInt32) &&& (1431655765 : Int32))) &&& (858993459 : Int32)) + ((((a0 - (((a0.toUInt32 >>> ((1 : Int32).toUInt32 &&& Int32.toUInt32 31)).toInt32) &&& (1431655765 : Int32))).toUInt32 >>> ((2 : Int32).toUInt32 &&& Int32.toUInt32 31)).toInt32) &&& (858993459 : Int32))).toUInt32 >>> ((4 : Int32).toUInt32 &&& Int32.toUInt32 31)).toInt32)) &&& (252645135 : Int32)).toUInt32 >>> ((8 : Int32).toUInt32 &&& Int32.toUInt32 31)).toInt32)).toUInt32 >>> ((16 : Int32).toUInt32 &&& Int32.toUInt32 31)).toInt32)))]) hc rfl (zlt rfl) rfl rfl ?_
  refine g_iload_n (pc' := 49)  hc rfl rfl rfl ?_
  refine g_bipush (pc' := 51) (v := (63 : Int32)) hc rfl zkb_63 rfl ?_
  refine g_iand (pc' := 52)  hc rfl rfl ?_
  replace h := zws h
  exact g_ireturn hc rfl rfl rfl (fun _ => ⟨rfl, rfl⟩) h
set_option maxRecDepth 4000 in
theorem ok_X11_crowd_0_p {I : pI} {J : pJ} {a1 : Int32} {a2 : Int32} {Q : pQ} {d : Nat} (hd : 8 ≤ d) (h : zwp (f_X11_crowd a1 a2 (I 54) (I 53 3) (I 56) (I 53 0) (I 57) (I 53 1) (I 55) (J 53 2) (I 52) (I 32) (I 31 3) (I 34) (I 31 0) (I 35) (I 31 1) (I 33) (J 31 2) (I 7 12) (I 7 3) (I 15) (I 13 2) (I 14) (I 7 1) (I 18) (I 16 2) (I 17) (I 12) (I 7 9) (I 9) (I 10) (I 7 0)) (fun w => match w with | (.inl r, o0, o1, o2, o3, o4, o5, o6, o7, o8, o9, o10) => Q (.inl (some (.int r))) (zS 7 19 I [(14, none, o9), (17, none, o10), (52, none, o8), (53, some 0, fun _ => o3), (53, some 1, fun _ => o5), (53, some 3, fun _ => o1), (54, none, o0), (55, none, o6), (56, none, o2), (57, none, o4)] J [(53, some 2, fun _ => o7)]) | (.inr E, o0, o1, o2, o3, o4, o5, o6, o7, o8, o9, o10) => Q (.inr E) (zS 7 19 I [(14, none, o9), (17, none, o10), (52, none, o8), (53, some 0, fun _ => o3), (53, some 1, fun _ => o5), (53, some 3, fun _ => o1), (54, none, o0), (55, none, o6), (56, none, o2), (57, none, o4)] J [(53, some 2, fun _ => o7)]))) : pm_call M cost zext d 112 [.ref 0, .int a1, .int a2] (pm_st 108 (shp 7 19) I J) Q := by
  obtain ⟨d, rfl⟩ := zd1 hd rfl
  have hc := pm_call_m (M := M) (cost := cost) zext_m d
  refine z_in (L := [(14, none, (I 14)), (17, none, (I 17)), (52, none, (I 52)), (53, some 0, fun _ => (I 53 0)), (53, some 1, fun _ => (I 53 1)), (53, some 3, fun _ => (I 53 3)), (54, none, (I 54)), (55, none, (I 55)), (56, none, (I 56)), (57, none, (I 57))]) (K := [(53, some 2, fun _ => (J 53 2))]) (ls := [some (.ref 0), some (.int a1), some (.int a2), none, none, none, none]) zmt_112 zco_112 rfl rfl (zid_a (zid_a (zid_a (zid_s (zid_s (zid_s (zid_a (zid_a (zid_a (zid_a zid_n)))))))))) (zid_s zid_n) ?_
  delta f_X11_crowd at h
  refine g_iload_n (pc' := 1)  hc rfl rfl rfl ?_
  refine g_iconst (pc' := 2) (v := (1 : Int32)) hc rfl zki_1 rfl ?_
  refine z_stat (as := [.int a2, .int (1 : Int32)]) (r := []) hc rfl rfl rfl rfl zco_135 rfl rfl rfl ?_
  refine ok_X11_checkWhat (zdp hd rfl) (zwp_mono (zwp_bind h) ?_)
  rintro (⟨⟩ | E1) h
  · refine z_po (pc' := 5) (st' := []) (v := none) (L' := [(14, none, (I 14)), (17, none, (I 17)), (52, none, (I 52)), (53, some 0, fun _ => (I 53 0)), (53, some 1, fun _ => (I 53 1)), (53, some 3, fun _ => (I 53 3)), (54, none, (I 54)), (55, none, (I 55)), (56, none, (I 56)), (57, none, (I 57))]) (K' := [(53, some 2, fun _ => (J 53 2))]) zco_135 rfl rfl rfl rfl rfl rfl rfl rfl ?_
    refine g_iload_n (pc' := 6)  hc rfl rfl rfl ?_
    refine g_iconst (pc' := 7) (v := (0 : Int32)) hc rfl zki_0 rfl ?_
    refine g_bipush (pc' := 9) (v := (100 : Int32)) hc rfl zkb_100 rfl ?_
    refine z_stat (as := [.int a1, .int (0 : Int32), .int (100 : Int32)]) (r := []) hc rfl rfl rfl rfl zco_136 rfl rfl rfl ?_
    refine ok_X11_checkHours (zdp hd rfl) (zwp_mono (zwp_bind h) ?_)
    rintro (⟨⟩ | E2) h
    · refine z_po (pc' := 12) (st' := []) (v := none) (L' := [(14, none, (I 14)), (17, none, (I 17)), (52, none, (I 52)), (53, some 0, fun _ => (I 53 0)), (53, some 1, fun _ => (I 53 1)), (53, some 3, fun _ => (I 53 3)), (54, none, (I 54)), (55, none, (I 55)), (56, none, (I 56)), (57, none, (I 57))]) (K' := [(53, some 2, fun _ => (J 53 2))]) zco_136 rfl rfl rfl rfl rfl rfl rfl rfl ?_
      refine g_aload_n (pc' := 13)  hc rfl rfl rfl rfl ?_
      refine g_iload_n (pc' := 14)  hc rfl rfl rfl ?_
      refine z_virt (as := [.int a1]) (a := 0) (r := []) hc rfl rfl rfl rfl sh_0 rfl zco_139 rfl rfl rfl ?_
      refine ok_X11_foresee_0_p (zdp hd rfl) (zwp_mono (zwp_bind h) ?_)
      rintro ⟨o3, o4, o5, o6, o7, o8, o9, o10, o11, o12, o13⟩ h
      refine z_po (pc' := 17) (st' := []) (v := none) (L' := [(14, none, o12), (17, none, o13), (52, none, o11), (53, some 0, fun _ => o6), (53, some 1, fun _ => o8), (53, some 3, fun _ => o4), (54, none, o3), (55, none, o9), (56, none, o5), (57, none, o7)]) (K' := [(53, some 2, fun _ => o10)]) zco_139 rfl rfl rfl rfl rfl rfl rfl rfl ?_
      refine g_iconst (pc' := 18) (v := (0 : Int32)) hc rfl zki_0 rfl ?_
      refine g_istore_n (pc' := 19) (ls1 := [some (.ref 0), some (.int a1), some (.int a2), some (.int (0 : Int32)), none, none, none]) hc rfl (zlt rfl) rfl rfl ?_
      refine g_iconst (pc' := 20) (v := (-1 : Int32)) hc rfl zki_m1 rfl ?_
      refine g_istore (pc' := 22) (ls1 := [some (.ref 0), some (.int a1), some (.int a2), some (.int (0 : Int32)), some (.int (-1 : Int32)), none, none]) hc rfl (zlt rfl) rfl rfl ?_
      refine g_iconst (pc' := 23) (v := (0 : Int32)) hc rfl zki_0 rfl ?_
      refine g_istore (pc' := 25) (ls1 := [some (.ref 0), some (.int a1), some (.int a2), some (.int (0 : Int32)), some (.int (-1 : Int32)), some (.int (0 : Int32)), none]) hc rfl (zlt rfl) rfl rfl ?_
      refine zjn (G := (fun (g : Int32 × Int32) => match g with | (y18, y19) => ∀ z20 : Option Value, znl z20 = true → ∀ z21 : Option Value, znl z21 = true → pm_ev C_X11_crowd (d + 1) (pm_call M cost zext d) cost (false, false) 108 1 6 Q 70 [some (.ref 0), some (.int a1), some (.int a2), some (.int y18), some (.int y19), z20, z21] [] 0 0 (zS 7 19 I [(14, none, o12), (17, none, o13), (52, none, o11), (53, some 0, fun _ => o6), (53, some 1, fun _ => o8), (53, some 3, fun _ => o4), (54, none, o3), (55, none, o9), (56, none, o5), (57, none, o7)] J [(53, some 2, fun _ => o10)]))) (zwp_bind h) ?_ (fun h => ?_)
      · rintro ⟨y18, y19⟩ h z20 hz20 z21 hz21
        refine g_iload_n (pc' := 71)  hc rfl rfl rfl ?_
        refine g_if_ne (pc' := 74) hc rfl rfl (fun hx => ?_) (fun hx => ?_)
        · replace h := zwp_f h hx
          refine g_iload (pc' := 80)  hc rfl rfl rfl ?_
          replace h := zws h
          exact g_ireturn hc rfl rfl rfl (fun _ => ⟨rfl, rfl⟩) h
        · replace h := zwp_t h hx
          refine g_iload_n (pc' := 75)  hc rfl rfl rfl ?_
          refine g_goto hc rfl ?_
          replace h := zws h
          exact g_ireturn hc rfl rfl rfl (fun _ => ⟨rfl, rfl⟩) h
      refine zitr_ev (G := (fun (g : Int32 × Int32 × Int32) => match g with | (x14, x15, x16) => ∀ z17 : Option Value, znl z17 = true → pm_ev C_X11_crowd (d + 1) (pm_call M cost zext d) cost (false, false) 108 1 6 Q 25 [some (.ref 0), some (.int a1), some (.int a2), some (.int x14), some (.int x15), some (.int x16), z17] [] 0 0 (zS 7 19 I [(14, none, o12), (17, none, o13), (52, none, o11), (53, some 0, fun _ => o6), (53, some 1, fun _ => o8), (53, some 3, fun _ => o4), (54, none, o3), (55, none, o9), (56, none, o5), (57, none, o7)] J [(53, some 2, fun _ => o10)]))) ?_ zFU ((0 : Int32), (-1 : Int32), (0 : Int32)) h none rfl
      rintro ⟨x14, x15, x16⟩ h z17 hz17
      refine g_iload (pc' := 27)  hc rfl rfl rfl ?_
      refine g_aload_n (pc' := 28)  hc rfl rfl rfl rfl ?_
      refine z_getR (pc' := 31)  hc rfl rfl rfl sh_0 rfl rfl ?_
      refine z_virt (as := []) (a := 7) (r := [.int x16]) hc rfl rfl rfl rfl sh_7 rfl zco_21 rfl rfl rfl ?_
      refine ok_X3_cells_7 (zdp hd rfl) (zwp_mono (zwp_bind h) ?_)
      rintro r22 h
      refine z_po (pc' := 34) (st' := [.int r22, .int x16]) (v := (some (.int r22))) (L' := [(14, none, o12), (17, none, o13), (52, none, o11), (53, some 0, fun _ => o6), (53, some 1, fun _ => o8), (53, some 3, fun _ => o4), (54, none, o3), (55, none, o9), (56, none, o5), (57, none, o7)]) (K' := [(53, some 2, fun _ => o10)]) zco_21 rfl rfl rfl rfl rfl rfl rfl rfl ?_
      refine g_icmp_ge (pc' := 37) hc rfl rfl (fun hx => ?_) (fun hx => ?_)
      · replace h := zwp_t h hx
        replace h := zwp_r h
        exact h (some (.int x16)) rfl z17 hz17
      · replace h := zwp_f h hx
        refine g_aload_n (pc' := 38)  hc rfl rfl rfl rfl ?_
        refine z_getR (pc' := 41)  hc rfl rfl rfl sh_0 rfl rfl ?_
        refine g_iload (pc' := 43)  hc rfl rfl rfl ?_
        refine z_virt (as := [.int x16]) (a := 53) (r := []) hc rfl rfl rfl rfl sh_53 rfl zco_72 rfl rfl rfl ?_
        refine ok_X8_figuresAt_53 (zdp hd rfl) (zwp_mono (zwp_bind h) ?_)
        rintro r23 h
        refine z_po (pc' := 46) (st' := [.int r23]) (v := (some (.int r23))) (L' := [(14, none, o12), (17, none, o13), (52, none, o11), (53, some 0, fun _ => o6), (53, some 1, fun _ => o8), (53, some 3, fun _ => o4), (54, none, o3), (55, none, o9), (56, none, o5), (57, none, o7)]) (K' := [(53, some 2, fun _ => o10)]) zco_72 rfl rfl rfl rfl rfl rfl rfl rfl ?_
        refine z_stat (as := [.int r23]) (r := []) hc rfl rfl rfl rfl zco_265 rfl rfl rfl ?_
        refine ok_J6_bitCount_0f7a4 (zdp hd rfl) (zwp_mono (zwp_bind h) ?_)
        rintro r24 h
        refine z_po (pc' := 49) (st' := [.int r24]) (v := (some (.int r24))) (L' := [(14, none, o12), (17, none, o13), (52, none, o11), (53, some 0, fun _ => o6), (53, some 1, fun _ => o8), (53, some 3, fun _ => o4), (54, none, o3), (55, none, o9), (56, none, o5), (57, none, o7)]) (K' := [(53, some 2, fun _ => o10)]) zco_265 rfl rfl rfl rfl rfl rfl rfl rfl ?_
        refine g_istore (pc' := 51) (ls1 := [some (.ref 0), some (.int a1), some (.int a2), some (.int x14), some (.int x15), some (.int x16), some (.int r24)]) hc rfl (zlt rfl) rfl rfl ?_
        refine g_iload (pc' := 53)  hc rfl rfl rfl ?_
        refine g_iload_n (pc' := 54)  hc rfl rfl rfl ?_
        refine g_icmp_le (pc' := 57) hc rfl rfl (fun hx => ?_) (fun hx => ?_)
        · replace h := zwp_t h hx
          refine g_iinc (pc' := 67) (ls1 := [some (.ref 0), some (.int a1), some (.int a2), some (.int x14), some (.int x15), some (.int (x16 + (1 : Int32))), some (.int r24)]) hc rfl rfl zki_1 (zlt rfl) rfl rfl ?_
          refine g_goto hc rfl ?_
          replace h := zwp_l h
          exact h (some (.int r24)) rfl
        · replace h := zwp_f h hx
          refine g_iload (pc' := 59)  hc rfl rfl rfl ?_
          refine g_istore_n (pc' := 60) (ls1 := [some (.ref 0), some (.int a1), some (.int a2), some (.int r24), some (.int x15), some (.int x16), some (.int r24)]) hc rfl (zlt rfl) rfl rfl ?_
          refine g_iload (pc' := 62)  hc rfl rfl rfl ?_
          refine g_istore (pc' := 64) (ls1 := [some (.ref 0), some (.int a1), some (.int a2), some (.int r24), some (.int x16), some (.int x16), some (.int r24)]) hc rfl (zlt rfl) rfl rfl ?_
          refine g_iinc (pc' := 67) (ls1 := [some (.ref 0), some (.int a1), some (.int a2), some (.int r24), some (.int x16), some (.int (x16 + (1 : Int32))), some (.int r24)]) hc rfl rfl zki_1 (zlt rfl) rfl rfl ?_
          refine g_goto hc rfl ?_
          replace h := zwp_l h
          exact h (some (.int r24)) rfl
    · replace h := zws h
      exact z_pox (L' := [(14, none, (I 14)), (17, none, (I 17)), (52, none, (I 52)), (53, some 0, fun _ => (I 53 0)), (53, some 1, fun _ => (I 53 1)), (53, some 3, fun _ => (I 53 3)), (54, none, (I 54)), (55, none, (I 55)), (56, none, (I 56)), (57, none, (I 57))]) (K' := [(53, some 2, fun _ => (J 53 2))]) rfl rfl rfl rfl rfl rfl rfl h
  · replace h := zws h
    exact z_pox (L' := [(14, none, (I 14)), (17, none, (I 17)), (52, none, (I 52)), (53, some 0, fun _ => (I 53 0)), (53, some 1, fun _ => (I 53 1)), (53, some 3, fun _ => (I 53 3)), (54, none, (I 54)), (55, none, (I 55)), (56, none, (I 56)), (57, none, (I 57))]) (K' := [(53, some 2, fun _ => (J 53 2))]) rfl rfl rfl rfl rfl rfl rfl h
set_option maxRecDepth 4000 in
theorem ok_L_crowd_0_107_p {I : pI} {J : pJ} {a1 : Int32} {a2 : Int32} {Q : pQ} {d : Nat} (hd : 9 ≤ d) (h : zwp (f_L_crowd a1 a2 1 (J 107) (I 54) (I 53 3) (I 56) (I 53 0) (I 57) (I 53 1) (I 55) (J 53 2) (I 52) (I 32) (I 31 3) (I 34) (I 31 0) (I 35) (I 31 1) (I 33) (J 31 2) (I 7 12) (I 7 3) (I 15) (I 13 2) (I 14) (I 7 1) (I 18) (I 16 2) (I 17) (I 12) (I 7 9) (I 9) (I 10) (I 7 0)) (fun w => match w with | (r, o0, o1, o2, o3, o4, o5, o6, o7, o8, o9, o10, o11) => Q (.inl (some (.int r))) (zS 7 19 I [(14, none, o10), (17, none, o11), (52, none, o9), (53, some 0, fun _ => o4), (53, some 1, fun _ => o6), (53, some 3, fun _ => o2), (54, none, o1), (55, none, o7), (56, none, o3), (57, none, o5)] J [(53, some 2, fun _ => o8), (107, none, o0)]))) : pm_call M cost zext d 283 [.ref 0, .int a1, .int a2, .ref 107] (pm_st 108 (shp 7 19) I J) Q := by
  obtain ⟨d, rfl⟩ := zd1 hd rfl
  have hc := pm_call_m (M := M) (cost := cost) zext_m d
  refine z_in (L := [(14, none, (I 14)), (17, none, (I 17)), (52, none, (I 52)), (53, some 0, fun _ => (I 53 0)), (53, some 1, fun _ => (I 53 1)), (53, some 3, fun _ => (I 53 3)), (54, none, (I 54)), (55, none, (I 55)), (56, none, (I 56)), (57, none, (I 57))]) (K := [(53, some 2, fun _ => (J 53 2)), (107, none, (J 107))]) (ls := [some (.ref 0), some (.int a1), some (.int a2), some (.ref 107), none]) zmt_283 zco_283 rfl rfl (zid_a (zid_a (zid_a (zid_s (zid_s (zid_s (zid_a (zid_a (zid_a (zid_a zid_n)))))))))) (zid_s (zid_a zid_n)) ?_
  delta f_L_crowd at h
  refine g_aload_n (pc' := 1)  hc rfl rfl rfl rfl ?_
  refine g_iconst (pc' := 2) (v := (0 : Int32)) hc rfl zki_0 rfl ?_
  refine g_aload_n (pc' := 3)  hc rfl rfl rfl rfl ?_
  refine g_iload_n (pc' := 4)  hc rfl rfl rfl ?_
  refine g_iload_n (pc' := 5)  hc rfl rfl rfl ?_
  refine z_virt (as := [.int a1, .int a2]) (a := 0) (r := [.int (0 : Int32), .ref 107]) hc rfl rfl rfl rfl sh_0 rfl zco_112 rfl rfl rfl ?_
  refine ok_X11_crowd_0_p (zdp hd rfl) (zwp_mono (zwp_bind h) ?_)
  rintro ⟨(r12 | E13), o1, o2, o3, o4, o5, o6, o7, o8, o9, o10, o11⟩ h
  · refine z_po (pc' := 8) (st' := [.int r12, .int (0 : Int32), .ref 107]) (v := (some (.int r12))) (L' := [(14, none, o10), (17, none, o11), (52, none, o9), (53, some 0, fun _ => o4), (53, some 1, fun _ => o6), (53, some 3, fun _ => o2), (54, none, o1), (55, none, o7), (56, none, o3), (57, none, o5)]) (K' := [(53, some 2, fun _ => o8), (107, none, (J 107))]) zco_112 rfl rfl rfl rfl rfl rfl rfl rfl ?_
    refine g_i2l (pc' := 9)  hc rfl rfl ?_
    have hb := (zwp_bnd h).1
    replace h := (zwp_bnd h).2
    refine z_lastore (pc' := 10) (g := (J 107)) (K' := [(53, some 2, fun _ => o8), (107, none, (vp_updL ((J 107)) (0 : Int32).toNatClampNeg r12.toInt64))]) hc rfl rfl sh_107 hb rfl rfl rfl rfl ?_
    refine g_goto hc rfl ?_
    refine g_iconst (pc' := 22) (v := (0 : Int32)) hc rfl zki_0 rfl ?_
    replace h := zws h
    exact g_ireturn hc rfl rfl rfl (fun _ => ⟨rfl, rfl⟩) h
  · by_cases hE : E13 = x_N
    · replace h := zwp_t h hE
      replace h := zws h
      exact z_poh (L' := [(14, none, o10), (17, none, o11), (52, none, o9), (53, some 0, fun _ => o4), (53, some 1, fun _ => o6), (53, some 3, fun _ => o2), (54, none, o1), (55, none, o7), (56, none, o3), (57, none, o5)]) (K' := [(53, some 2, fun _ => o8), (107, none, (J 107))]) (zhd2a (e := 10) (pc := 5) rfl hE) rfl rfl rfl rfl rfl rfl rfl rfl h
    replace h := zwp_f h hE
    have hN := hE
    by_cases hE : E13 = x_I
    · replace h := zwp_t h hE
      replace h := zws h
      exact z_poh (L' := [(14, none, o10), (17, none, o11), (52, none, o9), (53, some 0, fun _ => o4), (53, some 1, fun _ => o6), (53, some 3, fun _ => o2), (54, none, o1), (55, none, o7), (56, none, o3), (57, none, o5)]) (K' := [(53, some 2, fun _ => o8), (107, none, (J 107))]) (zhd2b (e := 10) (pc := 5) rfl hN hE) rfl rfl rfl rfl rfl rfl rfl rfl h
    replace h := zwp_f h hE
    exact (zwn h).elim
set_option maxRecDepth 4000 in
theorem ok_X11_spread_0_p {I : pI} {J : pJ} {a1 : Int32} {a2 : Int32} {Q : pQ} {d : Nat} (hd : 8 ≤ d) (h : zwp (f_X11_spread a1 a2 (I 54) (I 53 3) (I 56) (I 53 0) (I 57) (I 53 1) (I 55) (J 53 2) (I 52) (I 32) (I 31 3) (I 34) (I 31 0) (I 35) (I 31 1) (I 33) (J 31 2) (I 7 12) (I 7 3) (I 15) (I 13 2) (I 14) (I 7 1) (I 18) (I 16 2) (I 17) (I 12) (I 7 9) (I 9) (I 10) (I 7 0)) (fun w => match w with | (.inl r, o0, o1, o2, o3, o4, o5, o6, o7, o8, o9, o10) => Q (.inl (some (.int r))) (zS 7 19 I [(14, none, o9), (17, none, o10), (52, none, o8), (53, some 0, fun _ => o3), (53, some 1, fun _ => o5), (53, some 3, fun _ => o1), (54, none, o0), (55, none, o6), (56, none, o2), (57, none, o4)] J [(53, some 2, fun _ => o7)]) | (.inr E, o0, o1, o2, o3, o4, o5, o6, o7, o8, o9, o10) => Q (.inr E) (zS 7 19 I [(14, none, o9), (17, none, o10), (52, none, o8), (53, some 0, fun _ => o3), (53, some 1, fun _ => o5), (53, some 3, fun _ => o1), (54, none, o0), (55, none, o6), (56, none, o2), (57, none, o4)] J [(53, some 2, fun _ => o7)]))) : pm_call M cost zext d 114 [.ref 0, .int a1, .int a2] (pm_st 108 (shp 7 19) I J) Q := by
  obtain ⟨d, rfl⟩ := zd1 hd rfl
  have hc := pm_call_m (M := M) (cost := cost) zext_m d
  refine z_in (L := [(14, none, (I 14)), (17, none, (I 17)), (52, none, (I 52)), (53, some 0, fun _ => (I 53 0)), (53, some 1, fun _ => (I 53 1)), (53, some 3, fun _ => (I 53 3)), (54, none, (I 54)), (55, none, (I 55)), (56, none, (I 56)), (57, none, (I 57))]) (K := [(53, some 2, fun _ => (J 53 2))]) (ls := [some (.ref 0), some (.int a1), some (.int a2), none, none, none]) zmt_114 zco_114 rfl rfl (zid_a (zid_a (zid_a (zid_s (zid_s (zid_s (zid_a (zid_a (zid_a (zid_a zid_n)))))))))) (zid_s zid_n) ?_
  delta f_X11_spread at h
  refine g_aload_n (pc' := 1)  hc rfl rfl rfl rfl ?_
  refine g_iload_n (pc' := 2)  hc rfl rfl rfl ?_
  refine z_virt (as := [.int a1]) (a := 0) (r := []) hc rfl rfl rfl rfl sh_0 rfl zco_133 rfl rfl rfl ?_
  refine ok_X11_checkFigure_0_p (zdp hd rfl) (zwp_mono (zwp_bind h) ?_)
  rintro (⟨⟩ | E1) h
  · refine z_po (pc' := 5) (st' := []) (v := none) (L' := [(14, none, (I 14)), (17, none, (I 17)), (52, none, (I 52)), (53, some 0, fun _ => (I 53 0)), (53, some 1, fun _ => (I 53 1)), (53, some 3, fun _ => (I 53 3)), (54, none, (I 54)), (55, none, (I 55)), (56, none, (I 56)), (57, none, (I 57))]) (K' := [(53, some 2, fun _ => (J 53 2))]) zco_133 rfl rfl rfl rfl rfl rfl rfl rfl ?_
    refine g_iload_n (pc' := 6)  hc rfl rfl rfl ?_
    refine g_iconst (pc' := 7) (v := (0 : Int32)) hc rfl zki_0 rfl ?_
    refine g_bipush (pc' := 9) (v := (100 : Int32)) hc rfl zkb_100 rfl ?_
    refine z_stat (as := [.int a2, .int (0 : Int32), .int (100 : Int32)]) (r := []) hc rfl rfl rfl rfl zco_136 rfl rfl rfl ?_
    refine ok_X11_checkHours (zdp hd rfl) (zwp_mono (zwp_bind h) ?_)
    rintro (⟨⟩ | E2) h
    · refine z_po (pc' := 12) (st' := []) (v := none) (L' := [(14, none, (I 14)), (17, none, (I 17)), (52, none, (I 52)), (53, some 0, fun _ => (I 53 0)), (53, some 1, fun _ => (I 53 1)), (53, some 3, fun _ => (I 53 3)), (54, none, (I 54)), (55, none, (I 55)), (56, none, (I 56)), (57, none, (I 57))]) (K' := [(53, some 2, fun _ => (J 53 2))]) zco_136 rfl rfl rfl rfl rfl rfl rfl rfl ?_
      refine g_aload_n (pc' := 13)  hc rfl rfl rfl rfl ?_
      refine g_iconst (pc' := 14) (v := (0 : Int32)) hc rfl zki_0 rfl ?_
      refine z_virt (as := [.int (0 : Int32)]) (a := 0) (r := []) hc rfl rfl rfl rfl sh_0 rfl zco_139 rfl rfl rfl ?_
      refine ok_X11_foresee_0_p (zdp hd rfl) (zwp_mono (zwp_bind h) ?_)
      rintro ⟨o3, o4, o5, o6, o7, o8, o9, o10, o11, o12, o13⟩ h
      refine z_po (pc' := 17) (st' := []) (v := none) (L' := [(14, none, o12), (17, none, o13), (52, none, o11), (53, some 0, fun _ => o6), (53, some 1, fun _ => o8), (53, some 3, fun _ => o4), (54, none, o3), (55, none, o9), (56, none, o5), (57, none, o7)]) (K' := [(53, some 2, fun _ => o10)]) zco_139 rfl rfl rfl rfl rfl rfl rfl rfl ?_
      refine g_lconst (pc' := 18) (v := (1 : Int64)) hc rfl zkl_1 rfl ?_
      refine g_aload_n (pc' := 19)  hc rfl rfl rfl rfl ?_
      refine z_getR (pc' := 22)  hc rfl rfl rfl sh_0 rfl rfl ?_
      refine z_getR (pc' := 25)  hc rfl rfl rfl sh_53 rfl rfl ?_
      refine g_iload_n (pc' := 26)  hc rfl rfl rfl ?_
      have hb := (zwp_bnd h).1
      replace h := (zwp_bnd h).2
      refine z_iaload (pc' := 27) (v := (o3 a1.toNatClampNeg)) hc rfl rfl sh_54 hb rfl rfl ?_
      refine g_lshl (pc' := 28)  hc rfl rfl ?_
      refine g_lstore_n (pc' := 29) (ls1 := [some (.ref 0), some (.int a1), some (.int a2), some (.long ((1 : Int64) <<< ((o3 a1.toNatClampNeg).toInt64 &&& 63))), none, none]) hc rfl (zlt rfl) rfl rfl ?_
      refine g_iconst (pc' := 30) (v := (1 : Int32)) hc rfl zki_1 rfl ?_
      refine g_istore (pc' := 32) (ls1 := [some (.ref 0), some (.int a1), some (.int a2), some (.long ((1 : Int64) <<< ((o3 a1.toNatClampNeg).toInt64 &&& 63))), none, some (.int (1 : Int32))]) hc rfl (zlt rfl) rfl rfl ?_
      refine zjn (G := (fun (g : Int64 × (Nat → Int32) × (Nat → Int32) × Int32 × (Nat → Int32) × (Nat → Int32) × (Nat → Int32) × (Nat → Int32)) => match g with | (y23, y25, y26, y27, y28, y29, y30, y31) => ∀ z24 : Option Value, znl z24 = true → pm_ev C_X11_spread (d + 1) (pm_call M cost zext d) cost (false, false) 108 1 6 Q 62 [some (.ref 0), some (.int a1), some (.int a2), some (.long y23), none, z24] [] 0 0 (zS 7 19 I [(14, none, y30), (17, none, y31), (52, none, y29), (53, some 0, fun _ => y27), (53, some 1, fun _ => o8), (53, some 3, fun _ => o4), (54, none, y25), (55, none, y28), (56, none, y26), (57, none, o7)] J [(53, some 2, fun _ => o10)]))) (zwp_bind h) ?_ (fun h => ?_)
      · rintro ⟨y23, y25, y26, y27, y28, y29, y30, y31⟩ h z24 hz24
        refine g_lload_n (pc' := 63)  hc rfl rfl rfl ?_
        refine z_stat (as := [.long y23]) (r := []) hc rfl rfl rfl rfl zco_266 rfl rfl rfl ?_
        refine ok_J13_bitCount_95d88 (zdp hd rfl) (zwp_mono (zwp_bind h) ?_)
        rintro r32 h
        refine z_po (pc' := 66) (st' := [.int r32]) (v := (some (.int r32))) (L' := [(14, none, y30), (17, none, y31), (52, none, y29), (53, some 0, fun _ => y27), (53, some 1, fun _ => o8), (53, some 3, fun _ => o4), (54, none, y25), (55, none, y28), (56, none, y26), (57, none, o7)]) (K' := [(53, some 2, fun _ => o10)]) zco_266 rfl rfl rfl rfl rfl rfl rfl rfl ?_
        replace h := zws h
        exact g_ireturn hc rfl rfl rfl (fun _ => ⟨rfl, rfl⟩) h
      refine zitr_ev (G := (fun (g : Int64 × Int32 × (Nat → Int32) × (Nat → Int32) × Int32 × (Nat → Int32) × (Nat → Int32) × (Nat → Int32) × (Nat → Int32)) => match g with | (x14, x15, x16, x17, x18, x19, x20, x21, x22) => pm_ev C_X11_spread (d + 1) (pm_call M cost zext d) cost (false, false) 108 1 6 Q 32 [some (.ref 0), some (.int a1), some (.int a2), some (.long x14), none, some (.int x15)] [] 0 0 (zS 7 19 I [(14, none, x21), (17, none, x22), (52, none, x20), (53, some 0, fun _ => x18), (53, some 1, fun _ => o8), (53, some 3, fun _ => o4), (54, none, x16), (55, none, x19), (56, none, x17), (57, none, o7)] J [(53, some 2, fun _ => o10)]))) ?_ zFU (((1 : Int64) <<< ((o3 a1.toNatClampNeg).toInt64 &&& 63)), (1 : Int32), o3, o5, o6, o9, o11, o12, o13) h
      rintro ⟨x14, x15, x16, x17, x18, x19, x20, x21, x22⟩ h
      refine g_iload (pc' := 34)  hc rfl rfl rfl ?_
      refine g_iload_n (pc' := 35)  hc rfl rfl rfl ?_
      refine g_icmp_gt (pc' := 38) hc rfl rfl (fun hx => ?_) (fun hx => ?_)
      · replace h := zwp_t h hx
        replace h := zwp_r h
        exact h (some (.int x15)) rfl
      · replace h := zwp_f h hx
        refine g_aload_n (pc' := 39)  hc rfl rfl rfl rfl ?_
        refine z_virt (as := []) (a := 0) (r := []) hc rfl rfl rfl rfl sh_0 rfl zco_140 rfl rfl rfl ?_
        refine ok_X11_passFuture_0_p (zdp hd rfl) (zwp_mono (zwp_bind h) ?_)
        rintro ⟨o33, o34, o35, o36, o37, o38, o39⟩ h
        refine z_po (pc' := 42) (st' := []) (v := none) (L' := [(14, none, o38), (17, none, o39), (52, none, o37), (53, some 0, fun _ => o35), (53, some 1, fun _ => o8), (53, some 3, fun _ => o4), (54, none, o33), (55, none, o36), (56, none, o34), (57, none, o7)]) (K' := [(53, some 2, fun _ => o10)]) zco_140 rfl rfl rfl rfl rfl rfl rfl rfl ?_
        refine g_lload_n (pc' := 43)  hc rfl rfl rfl ?_
        refine g_lconst (pc' := 44) (v := (1 : Int64)) hc rfl zkl_1 rfl ?_
        refine g_aload_n (pc' := 45)  hc rfl rfl rfl rfl ?_
        refine z_getR (pc' := 48)  hc rfl rfl rfl sh_0 rfl rfl ?_
        refine z_getR (pc' := 51)  hc rfl rfl rfl sh_53 rfl rfl ?_
        refine g_iload_n (pc' := 52)  hc rfl rfl rfl ?_
        have hb := (zwp_bnd h).1
        replace h := (zwp_bnd h).2
        refine z_iaload (pc' := 53) (v := (o33 a1.toNatClampNeg)) hc rfl rfl sh_54 hb rfl rfl ?_
        refine g_lshl (pc' := 54)  hc rfl rfl ?_
        refine g_lor (pc' := 55)  hc rfl rfl ?_
        refine g_lstore_n (pc' := 56) (ls1 := [some (.ref 0), some (.int a1), some (.int a2), some (.long (x14 ||| ((1 : Int64) <<< ((o33 a1.toNatClampNeg).toInt64 &&& 63)))), none, some (.int x15)]) hc rfl (zlt rfl) rfl rfl ?_
        refine g_iinc (pc' := 59) (ls1 := [some (.ref 0), some (.int a1), some (.int a2), some (.long (x14 ||| ((1 : Int64) <<< ((o33 a1.toNatClampNeg).toInt64 &&& 63)))), none, some (.int (x15 + (1 : Int32)))]) hc rfl rfl zki_1 (zlt rfl) rfl rfl ?_
        refine g_goto hc rfl ?_
        replace h := zwp_l h
        exact h
    · replace h := zws h
      exact z_pox (L' := [(14, none, (I 14)), (17, none, (I 17)), (52, none, (I 52)), (53, some 0, fun _ => (I 53 0)), (53, some 1, fun _ => (I 53 1)), (53, some 3, fun _ => (I 53 3)), (54, none, (I 54)), (55, none, (I 55)), (56, none, (I 56)), (57, none, (I 57))]) (K' := [(53, some 2, fun _ => (J 53 2))]) rfl rfl rfl rfl rfl rfl rfl h
  · replace h := zws h
    exact z_pox (L' := [(14, none, (I 14)), (17, none, (I 17)), (52, none, (I 52)), (53, some 0, fun _ => (I 53 0)), (53, some 1, fun _ => (I 53 1)), (53, some 3, fun _ => (I 53 3)), (54, none, (I 54)), (55, none, (I 55)), (56, none, (I 56)), (57, none, (I 57))]) (K' := [(53, some 2, fun _ => (J 53 2))]) rfl rfl rfl rfl rfl rfl rfl h
set_option maxRecDepth 4000 in
theorem ok_L_spread_0_107_p {I : pI} {J : pJ} {a1 : Int32} {a2 : Int32} {Q : pQ} {d : Nat} (hd : 9 ≤ d) (h : zwp (f_L_spread a1 a2 1 (J 107) (I 54) (I 53 3) (I 56) (I 53 0) (I 57) (I 53 1) (I 55) (J 53 2) (I 52) (I 32) (I 31 3) (I 34) (I 31 0) (I 35) (I 31 1) (I 33) (J 31 2) (I 7 12) (I 7 3) (I 15) (I 13 2) (I 14) (I 7 1) (I 18) (I 16 2) (I 17) (I 12) (I 7 9) (I 9) (I 10) (I 7 0)) (fun w => match w with | (r, o0, o1, o2, o3, o4, o5, o6, o7, o8, o9, o10, o11) => Q (.inl (some (.int r))) (zS 7 19 I [(14, none, o10), (17, none, o11), (52, none, o9), (53, some 0, fun _ => o4), (53, some 1, fun _ => o6), (53, some 3, fun _ => o2), (54, none, o1), (55, none, o7), (56, none, o3), (57, none, o5)] J [(53, some 2, fun _ => o8), (107, none, o0)]))) : pm_call M cost zext d 284 [.ref 0, .int a1, .int a2, .ref 107] (pm_st 108 (shp 7 19) I J) Q := by
  obtain ⟨d, rfl⟩ := zd1 hd rfl
  have hc := pm_call_m (M := M) (cost := cost) zext_m d
  refine z_in (L := [(14, none, (I 14)), (17, none, (I 17)), (52, none, (I 52)), (53, some 0, fun _ => (I 53 0)), (53, some 1, fun _ => (I 53 1)), (53, some 3, fun _ => (I 53 3)), (54, none, (I 54)), (55, none, (I 55)), (56, none, (I 56)), (57, none, (I 57))]) (K := [(53, some 2, fun _ => (J 53 2)), (107, none, (J 107))]) (ls := [some (.ref 0), some (.int a1), some (.int a2), some (.ref 107), none]) zmt_284 zco_284 rfl rfl (zid_a (zid_a (zid_a (zid_s (zid_s (zid_s (zid_a (zid_a (zid_a (zid_a zid_n)))))))))) (zid_s (zid_a zid_n)) ?_
  delta f_L_spread at h
  refine g_aload_n (pc' := 1)  hc rfl rfl rfl rfl ?_
  refine g_iconst (pc' := 2) (v := (0 : Int32)) hc rfl zki_0 rfl ?_
  refine g_aload_n (pc' := 3)  hc rfl rfl rfl rfl ?_
  refine g_iload_n (pc' := 4)  hc rfl rfl rfl ?_
  refine g_iload_n (pc' := 5)  hc rfl rfl rfl ?_
  refine z_virt (as := [.int a1, .int a2]) (a := 0) (r := [.int (0 : Int32), .ref 107]) hc rfl rfl rfl rfl sh_0 rfl zco_114 rfl rfl rfl ?_
  refine ok_X11_spread_0_p (zdp hd rfl) (zwp_mono (zwp_bind h) ?_)
  rintro ⟨(r12 | E13), o1, o2, o3, o4, o5, o6, o7, o8, o9, o10, o11⟩ h
  · refine z_po (pc' := 8) (st' := [.int r12, .int (0 : Int32), .ref 107]) (v := (some (.int r12))) (L' := [(14, none, o10), (17, none, o11), (52, none, o9), (53, some 0, fun _ => o4), (53, some 1, fun _ => o6), (53, some 3, fun _ => o2), (54, none, o1), (55, none, o7), (56, none, o3), (57, none, o5)]) (K' := [(53, some 2, fun _ => o8), (107, none, (J 107))]) zco_114 rfl rfl rfl rfl rfl rfl rfl rfl ?_
    refine g_i2l (pc' := 9)  hc rfl rfl ?_
    have hb := (zwp_bnd h).1
    replace h := (zwp_bnd h).2
    refine z_lastore (pc' := 10) (g := (J 107)) (K' := [(53, some 2, fun _ => o8), (107, none, (vp_updL ((J 107)) (0 : Int32).toNatClampNeg r12.toInt64))]) hc rfl rfl sh_107 hb rfl rfl rfl rfl ?_
    refine g_goto hc rfl ?_
    refine g_iconst (pc' := 22) (v := (0 : Int32)) hc rfl zki_0 rfl ?_
    replace h := zws h
    exact g_ireturn hc rfl rfl rfl (fun _ => ⟨rfl, rfl⟩) h
  · by_cases hE : E13 = x_N
    · replace h := zwp_t h hE
      replace h := zws h
      exact z_poh (L' := [(14, none, o10), (17, none, o11), (52, none, o9), (53, some 0, fun _ => o4), (53, some 1, fun _ => o6), (53, some 3, fun _ => o2), (54, none, o1), (55, none, o7), (56, none, o3), (57, none, o5)]) (K' := [(53, some 2, fun _ => o8), (107, none, (J 107))]) (zhd2a (e := 10) (pc := 5) rfl hE) rfl rfl rfl rfl rfl rfl rfl rfl h
    replace h := zwp_f h hE
    have hN := hE
    by_cases hE : E13 = x_I
    · replace h := zwp_t h hE
      replace h := zws h
      exact z_poh (L' := [(14, none, o10), (17, none, o11), (52, none, o9), (53, some 0, fun _ => o4), (53, some 1, fun _ => o6), (53, some 3, fun _ => o2), (54, none, o1), (55, none, o7), (56, none, o3), (57, none, o5)]) (K' := [(53, some 2, fun _ => o8), (107, none, (J 107))]) (zhd2b (e := 10) (pc := 5) rfl hN hE) rfl rfl rfl rfl rfl rfl rfl rfl h
    replace h := zwp_f h hE
    exact (zwn h).elim
set_option maxRecDepth 4000 in
theorem ok_X10_firstStep_58_7_31 {p q : Nat} {I : pI} {J : pJ} {a3 : Int32} {Q : pQ} {d : Nat} (hd : 3 ≤ d) (h : zwp (f_X10_firstStep a3 (I 59) (I 7 1) (I 7 0) (J 31 2)) (fun r => Q (.inl (some (.int r))) (zS p q I [] J []))) : pm_call M cost zext d 93 [.ref 58, .ref 7, .ref 31, .int a3] (pm_st 108 (shp p q) I J) Q := by
  obtain ⟨d, rfl⟩ := zd1 hd rfl
  have hc := pm_call_m (M := M) (cost := cost) zext_m d
  refine z_in (L := []) (K := []) (ls := [some (.ref 58), some (.ref 7), some (.ref 31), some (.int a3), none, none, none]) zmt_93 zco_93 rfl rfl zid_n zid_n ?_
  delta f_X10_firstStep at h
  refine g_iconst (pc' := 1) (v := (-1 : Int32)) hc rfl zki_m1 rfl ?_
  refine g_istore (pc' := 3) (ls1 := [some (.ref 58), some (.ref 7), some (.ref 31), some (.int a3), some (.int (-1 : Int32)), none, none]) hc rfl (zlt rfl) rfl rfl ?_
  refine g_iconst (pc' := 4) (v := (1 : Int32)) hc rfl zki_1 rfl ?_
  refine g_istore (pc' := 6) (ls1 := [some (.ref 58), some (.ref 7), some (.ref 31), some (.int a3), some (.int (-1 : Int32)), some (.int (1 : Int32)), none]) hc rfl (zlt rfl) rfl rfl ?_
  refine zjn (G := (fun (y4 : Int32) => ∀ z5 : Option Value, znl z5 = true → ∀ z6 : Option Value, znl z6 = true → pm_ev C_X10_firstStep (d + 1) (pm_call M cost zext d) cost (false, false) 108 0 0 Q 89 [some (.ref 58), some (.ref 7), some (.ref 31), some (.int a3), some (.int y4), z5, z6] [] 0 0 (zS p q I [] J []))) (zwp_bind h) ?_ (fun h => ?_)
  · rintro y4 h z5 hz5 z6 hz6
    refine g_iload (pc' := 91)  hc rfl rfl rfl ?_
    replace h := zws h
    exact g_ireturn hc rfl rfl rfl (fun _ => ⟨rfl, rfl⟩) h
  refine zitr_ev (G := (fun (g : Int32 × Int32) => match g with | (x1, x2) => ∀ z3 : Option Value, znl z3 = true → pm_ev C_X10_firstStep (d + 1) (pm_call M cost zext d) cost (false, false) 108 0 0 Q 6 [some (.ref 58), some (.ref 7), some (.ref 31), some (.int a3), some (.int x1), some (.int x2), z3] [] 0 0 (zS p q I [] J []))) ?_ zFU ((-1 : Int32), (1 : Int32)) h none rfl
  rintro ⟨x1, x2⟩ h z3 hz3
  refine g_iload (pc' := 8)  hc rfl rfl rfl ?_
  refine g_iconst (pc' := 9) (v := (4 : Int32)) hc rfl zki_4 rfl ?_
  refine g_icmp_gt (pc' := 12) hc rfl rfl (fun hx => ?_) (fun hx => ?_)
  · replace h := zwp_t h hx
    replace h := zwp_r h
    exact h (some (.int x2)) rfl z3 hz3
  · replace h := zwp_f h hx
    refine g_aload_n (pc' := 13)  hc rfl rfl rfl rfl ?_
    refine z_getR (pc' := 16)  hc rfl rfl rfl sh_58 rfl rfl ?_
    refine g_iload_n (pc' := 17)  hc rfl rfl rfl ?_
    have hb := (zwp_bnd h).1
    replace h := (zwp_bnd h).2
    refine z_iaload (pc' := 18) (v := (((I 59)) a3.toNatClampNeg)) hc rfl rfl sh_59 hb rfl rfl ?_
    refine g_if_le (pc' := 21) hc rfl rfl (fun hx => ?_) (fun hx => ?_)
    · replace h := zwp_t h hx
      replace h := zwp_r h
      exact h (some (.int x2)) rfl z3 hz3
    · replace h := zwp_f h hx
      refine g_aload_n (pc' := 22)  hc rfl rfl rfl rfl ?_
      refine g_iload_n (pc' := 23)  hc rfl rfl rfl ?_
      refine g_iload (pc' := 25)  hc rfl rfl rfl ?_
      refine z_virt (as := [.int a3, .int x2]) (a := 7) (r := []) hc rfl rfl rfl rfl sh_7 rfl zco_28 rfl rfl rfl ?_
      refine ok_X3_beside_7 (zdp hd rfl) (zwp_mono (zwp_bind h) ?_)
      rintro r7 h
      refine z_po (pc' := 28) (st' := [.int r7]) (v := (some (.int r7))) (L' := []) (K' := []) zco_28 rfl rfl rfl rfl rfl rfl rfl rfl ?_
      refine g_istore (pc' := 30) (ls1 := [some (.ref 58), some (.ref 7), some (.ref 31), some (.int a3), some (.int x1), some (.int x2), some (.int r7)]) hc rfl (zlt rfl) rfl rfl ?_
      refine g_iload (pc' := 32)  hc rfl rfl rfl ?_
      refine g_iconst (pc' := 33) (v := (-1 : Int32)) hc rfl zki_m1 rfl ?_
      refine g_icmp_eq (pc' := 36) hc rfl rfl (fun hx => ?_) (fun hx => ?_)
      · replace h := zwp_t h hx
        refine g_iinc (pc' := 86) (ls1 := [some (.ref 58), some (.ref 7), some (.ref 31), some (.int a3), some (.int x1), some (.int (x2 + (1 : Int32))), some (.int r7)]) hc rfl rfl zki_1 (zlt rfl) rfl rfl ?_
        refine g_goto hc rfl ?_
        replace h := zwp_l h
        exact h (some (.int r7)) rfl
      · replace h := zwp_f h hx
        refine g_aload_n (pc' := 37)  hc rfl rfl rfl rfl ?_
        refine g_iload (pc' := 39)  hc rfl rfl rfl ?_
        refine z_virt (as := [.int r7]) (a := 31) (r := []) hc rfl rfl rfl rfl sh_31 rfl zco_71 rfl rfl rfl ?_
        refine ok_X8_isWall_31 (zdp hd rfl) (zwp_mono (zwp_bind h) ?_)
        rintro r8 h
        refine z_po (pc' := 42) (st' := [.int r8]) (v := (some (.int r8))) (L' := []) (K' := []) zco_71 rfl rfl rfl rfl rfl rfl rfl rfl ?_
        refine g_if_ne (pc' := 45) hc rfl rfl (fun hx => ?_) (fun hx => ?_)
        · replace h := zwp_f h hx
          refine g_iinc (pc' := 86) (ls1 := [some (.ref 58), some (.ref 7), some (.ref 31), some (.int a3), some (.int x1), some (.int (x2 + (1 : Int32))), some (.int r7)]) hc rfl rfl zki_1 (zlt rfl) rfl rfl ?_
          refine g_goto hc rfl ?_
          replace h := zwp_l h
          exact h (some (.int r7)) rfl
        · replace h := zwp_t h hx
          refine g_aload_n (pc' := 46)  hc rfl rfl rfl rfl ?_
          refine z_getR (pc' := 49)  hc rfl rfl rfl sh_58 rfl rfl ?_
          refine g_iload (pc' := 51)  hc rfl rfl rfl ?_
          have hb := (zwp_bnd h).1
          replace h := (zwp_bnd h).2
          refine z_iaload (pc' := 52) (v := (((I 59)) r7.toNatClampNeg)) hc rfl rfl sh_59 hb rfl rfl ?_
          refine g_aload_n (pc' := 53)  hc rfl rfl rfl rfl ?_
          refine z_getR (pc' := 56)  hc rfl rfl rfl sh_58 rfl rfl ?_
          refine g_iload_n (pc' := 57)  hc rfl rfl rfl ?_
          have hb := (zwp_bnd h).1
          replace h := (zwp_bnd h).2
          refine z_iaload (pc' := 58) (v := (((I 59)) a3.toNatClampNeg)) hc rfl rfl sh_59 hb rfl rfl ?_
          refine g_iconst (pc' := 59) (v := (1 : Int32)) hc rfl zki_1 rfl ?_
          refine g_isub (pc' := 60)  hc rfl rfl ?_
          refine g_icmp_eq (pc' := 63) hc rfl rfl (fun hx => ?_) (fun hx => ?_)
          · replace h := zwp_t h hx
            refine g_iload (pc' := 68)  hc rfl rfl rfl ?_
            refine g_iconst (pc' := 69) (v := (-1 : Int32)) hc rfl zki_m1 rfl ?_
            refine g_icmp_eq (pc' := 72) hc rfl rfl (fun hx => ?_) (fun hx => ?_)
            · replace h := zwp_t h hx
              refine g_iload (pc' := 81)  hc rfl rfl rfl ?_
              refine g_istore (pc' := 83) (ls1 := [some (.ref 58), some (.ref 7), some (.ref 31), some (.int a3), some (.int r7), some (.int x2), some (.int r7)]) hc rfl (zlt rfl) rfl rfl ?_
              refine g_iinc (pc' := 86) (ls1 := [some (.ref 58), some (.ref 7), some (.ref 31), some (.int a3), some (.int r7), some (.int (x2 + (1 : Int32))), some (.int r7)]) hc rfl rfl zki_1 (zlt rfl) rfl rfl ?_
              refine g_goto hc rfl ?_
              replace h := zwp_l h
              exact h (some (.int r7)) rfl
            · replace h := zwp_f h hx
              refine g_iload (pc' := 74)  hc rfl rfl rfl ?_
              refine g_iload (pc' := 76)  hc rfl rfl rfl ?_
              refine g_icmp_ge (pc' := 79) hc rfl rfl (fun hx => ?_) (fun hx => ?_)
              · replace h := zwp_t h hx
                refine g_iinc (pc' := 86) (ls1 := [some (.ref 58), some (.ref 7), some (.ref 31), some (.int a3), some (.int x1), some (.int (x2 + (1 : Int32))), some (.int r7)]) hc rfl rfl zki_1 (zlt rfl) rfl rfl ?_
                refine g_goto hc rfl ?_
                replace h := zwp_l h
                exact h (some (.int r7)) rfl
              · replace h := zwp_f h hx
                refine g_iload (pc' := 81)  hc rfl rfl rfl ?_
                refine g_istore (pc' := 83) (ls1 := [some (.ref 58), some (.ref 7), some (.ref 31), some (.int a3), some (.int r7), some (.int x2), some (.int r7)]) hc rfl (zlt rfl) rfl rfl ?_
                refine g_iinc (pc' := 86) (ls1 := [some (.ref 58), some (.ref 7), some (.ref 31), some (.int a3), some (.int r7), some (.int (x2 + (1 : Int32))), some (.int r7)]) hc rfl rfl zki_1 (zlt rfl) rfl rfl ?_
                refine g_goto hc rfl ?_
                replace h := zwp_l h
                exact h (some (.int r7)) rfl
          · replace h := zwp_f h hx
            refine g_goto hc rfl ?_
            refine g_iinc (pc' := 86) (ls1 := [some (.ref 58), some (.ref 7), some (.ref 31), some (.int a3), some (.int x1), some (.int (x2 + (1 : Int32))), some (.int r7)]) hc rfl rfl zki_1 (zlt rfl) rfl rfl ?_
            refine g_goto hc rfl ?_
            replace h := zwp_l h
            exact h (some (.int r7)) rfl
set_option maxRecDepth 4000 in
theorem ok_X11_way_0_p {I : pI} {J : pJ} {a1 : Int32} {a2 : Int32} {a3 : Int32} {Q : pQ} {d : Nat} (hd : 8 ≤ d) (h : zwp (f_X11_way a1 a2 a3 (J 31 2) (I 7 1) (I 7 0) (I 59) (I 60)) (fun w => match w with | (.inl r, o0, o1) => Q (.inl (some (.int r))) (zS 7 19 I [(59, none, o0), (60, none, o1)] J []) | (.inr E, o0, o1) => Q (.inr E) (zS 7 19 I [(59, none, o0), (60, none, o1)] J []))) : pm_call M cost zext d 115 [.ref 0, .int a1, .int a2, .int a3] (pm_st 108 (shp 7 19) I J) Q := by
  obtain ⟨d, rfl⟩ := zd1 hd rfl
  have hc := pm_call_m (M := M) (cost := cost) zext_m d
  refine z_in (L := [(59, none, (I 59)), (60, none, (I 60))]) (K := []) (ls := [some (.ref 0), some (.int a1), some (.int a2), some (.int a3)]) zmt_115 zco_115 rfl rfl (zid_a (zid_a zid_n)) zid_n ?_
  delta f_X11_way at h
  refine g_aload_n (pc' := 1)  hc rfl rfl rfl rfl ?_
  refine g_iload_n (pc' := 2)  hc rfl rfl rfl ?_
  refine z_virt (as := [.int a1]) (a := 0) (r := []) hc rfl rfl rfl rfl sh_0 rfl zco_134 rfl rfl rfl ?_
  refine ok_X11_checkCell_0_p (zdp hd rfl) (zwp_mono (zwp_bind h) ?_)
  rintro (⟨⟩ | E1) h
  · refine z_po (pc' := 5) (st' := []) (v := none) (L' := [(59, none, (I 59)), (60, none, (I 60))]) (K' := []) zco_134 rfl rfl rfl rfl rfl rfl rfl rfl ?_
    refine g_aload_n (pc' := 6)  hc rfl rfl rfl rfl ?_
    refine g_iload_n (pc' := 7)  hc rfl rfl rfl ?_
    refine z_virt (as := [.int a2]) (a := 0) (r := []) hc rfl rfl rfl rfl sh_0 rfl zco_134 rfl rfl rfl ?_
    refine ok_X11_checkCell_0_p (zdp hd rfl) (zwp_mono (zwp_bind h) ?_)
    rintro (⟨⟩ | E2) h
    · refine z_po (pc' := 10) (st' := []) (v := none) (L' := [(59, none, (I 59)), (60, none, (I 60))]) (K' := []) zco_134 rfl rfl rfl rfl rfl rfl rfl rfl ?_
      refine g_iload_n (pc' := 11)  hc rfl rfl rfl ?_
      refine g_iconst (pc' := 12) (v := (1 : Int32)) hc rfl zki_1 rfl ?_
      refine z_stat (as := [.int a3, .int (1 : Int32)]) (r := []) hc rfl rfl rfl rfl zco_135 rfl rfl rfl ?_
      refine ok_X11_checkWhat (zdp hd rfl) (zwp_mono (zwp_bind h) ?_)
      rintro (⟨⟩ | E3) h
      · refine z_po (pc' := 15) (st' := []) (v := none) (L' := [(59, none, (I 59)), (60, none, (I 60))]) (K' := []) zco_135 rfl rfl rfl rfl rfl rfl rfl rfl ?_
        refine g_aload_n (pc' := 16)  hc rfl rfl rfl rfl ?_
        refine z_getR (pc' := 19)  hc rfl rfl rfl sh_0 rfl rfl ?_
        refine g_aload_n (pc' := 20)  hc rfl rfl rfl rfl ?_
        refine z_getR (pc' := 23)  hc rfl rfl rfl sh_0 rfl rfl ?_
        refine g_aload_n (pc' := 24)  hc rfl rfl rfl rfl ?_
        refine z_getR (pc' := 27)  hc rfl rfl rfl sh_0 rfl rfl ?_
        refine g_iload_n (pc' := 28)  hc rfl rfl rfl ?_
        refine z_virt (as := [.ref 7, .ref 31, .int a2]) (a := 58) (r := []) hc rfl rfl rfl rfl sh_58 rfl zco_92 rfl rfl rfl ?_
        refine ok_X10_measure_58_7_31 (zdp hd rfl) (zwp_mono (zwp_bind h) ?_)
        rintro ⟨o4, o5⟩ h
        refine z_po (pc' := 31) (st' := []) (v := none) (L' := [(59, none, o4), (60, none, o5)]) (K' := []) zco_92 rfl rfl rfl rfl rfl rfl rfl rfl ?_
        refine g_iload_n (pc' := 32)  hc rfl rfl rfl ?_
        refine g_if_ne (pc' := 35) hc rfl rfl (fun hx => ?_) (fun hx => ?_)
        · replace h := zwp_f h hx
          refine g_aload_n (pc' := 48)  hc rfl rfl rfl rfl ?_
          refine z_getR (pc' := 51)  hc rfl rfl rfl sh_0 rfl rfl ?_
          refine g_aload_n (pc' := 52)  hc rfl rfl rfl rfl ?_
          refine z_getR (pc' := 55)  hc rfl rfl rfl sh_0 rfl rfl ?_
          refine g_aload_n (pc' := 56)  hc rfl rfl rfl rfl ?_
          refine z_getR (pc' := 59)  hc rfl rfl rfl sh_0 rfl rfl ?_
          refine g_iload_n (pc' := 60)  hc rfl rfl rfl ?_
          refine z_virt (as := [.ref 7, .ref 31, .int a1]) (a := 58) (r := []) hc rfl rfl rfl rfl sh_58 rfl zco_93 rfl rfl rfl ?_
          refine ok_X10_firstStep_58_7_31 (zdp hd rfl) (zwp_mono (zwp_bind h) ?_)
          rintro r6 h
          refine z_po (pc' := 63) (st' := [.int r6]) (v := (some (.int r6))) (L' := [(59, none, o4), (60, none, o5)]) (K' := []) zco_93 rfl rfl rfl rfl rfl rfl rfl rfl ?_
          replace h := zws h
          exact g_ireturn hc rfl rfl rfl (fun _ => ⟨rfl, rfl⟩) h
        · replace h := zwp_t h hx
          refine g_aload_n (pc' := 36)  hc rfl rfl rfl rfl ?_
          refine z_getR (pc' := 39)  hc rfl rfl rfl sh_0 rfl rfl ?_
          refine z_getR (pc' := 42)  hc rfl rfl rfl sh_58 rfl rfl ?_
          refine g_iload_n (pc' := 43)  hc rfl rfl rfl ?_
          have hb := (zwp_bnd h).1
          replace h := (zwp_bnd h).2
          refine z_iaload (pc' := 44) (v := (o4 a1.toNatClampNeg)) hc rfl rfl sh_59 hb rfl rfl ?_
          refine g_goto hc rfl ?_
          replace h := zws h
          exact g_ireturn hc rfl rfl rfl (fun _ => ⟨rfl, rfl⟩) h
      · replace h := zws h
        exact z_pox (L' := [(59, none, (I 59)), (60, none, (I 60))]) (K' := []) rfl rfl rfl rfl rfl rfl rfl h
    · replace h := zws h
      exact z_pox (L' := [(59, none, (I 59)), (60, none, (I 60))]) (K' := []) rfl rfl rfl rfl rfl rfl rfl h
  · replace h := zws h
    exact z_pox (L' := [(59, none, (I 59)), (60, none, (I 60))]) (K' := []) rfl rfl rfl rfl rfl rfl rfl h
set_option maxRecDepth 4000 in
theorem ok_L_way_0_107_p {I : pI} {J : pJ} {a1 : Int32} {a2 : Int32} {a3 : Int32} {Q : pQ} {d : Nat} (hd : 9 ≤ d) (h : zwp (f_L_way a1 a2 a3 1 (J 107) (J 31 2) (I 7 1) (I 7 0) (I 59) (I 60)) (fun w => match w with | (r, o0, o1, o2) => Q (.inl (some (.int r))) (zS 7 19 I [(59, none, o1), (60, none, o2)] J [(107, none, o0)]))) : pm_call M cost zext d 285 [.ref 0, .int a1, .int a2, .int a3, .ref 107] (pm_st 108 (shp 7 19) I J) Q := by
  obtain ⟨d, rfl⟩ := zd1 hd rfl
  have hc := pm_call_m (M := M) (cost := cost) zext_m d
  refine z_in (L := [(59, none, (I 59)), (60, none, (I 60))]) (K := [(107, none, (J 107))]) (ls := [some (.ref 0), some (.int a1), some (.int a2), some (.int a3), some (.ref 107), none]) zmt_285 zco_285 rfl rfl (zid_a (zid_a zid_n)) (zid_a zid_n) ?_
  delta f_L_way at h
  refine g_aload (pc' := 2)  hc rfl rfl rfl rfl ?_
  refine g_iconst (pc' := 3) (v := (0 : Int32)) hc rfl zki_0 rfl ?_
  refine g_aload_n (pc' := 4)  hc rfl rfl rfl rfl ?_
  refine g_iload_n (pc' := 5)  hc rfl rfl rfl ?_
  refine g_iload_n (pc' := 6)  hc rfl rfl rfl ?_
  refine g_iload_n (pc' := 7)  hc rfl rfl rfl ?_
  refine z_virt (as := [.int a1, .int a2, .int a3]) (a := 0) (r := [.int (0 : Int32), .ref 107]) hc rfl rfl rfl rfl sh_0 rfl zco_115 rfl rfl rfl ?_
  refine ok_X11_way_0_p (zdp hd rfl) (zwp_mono (zwp_bind h) ?_)
  rintro ⟨(r3 | E4), o1, o2⟩ h
  · refine z_po (pc' := 10) (st' := [.int r3, .int (0 : Int32), .ref 107]) (v := (some (.int r3))) (L' := [(59, none, o1), (60, none, o2)]) (K' := [(107, none, (J 107))]) zco_115 rfl rfl rfl rfl rfl rfl rfl rfl ?_
    refine g_i2l (pc' := 11)  hc rfl rfl ?_
    have hb := (zwp_bnd h).1
    replace h := (zwp_bnd h).2
    refine z_lastore (pc' := 12) (g := (J 107)) (K' := [(107, none, (vp_updL ((J 107)) (0 : Int32).toNatClampNeg r3.toInt64))]) hc rfl rfl sh_107 hb rfl rfl rfl rfl ?_
    refine g_goto hc rfl ?_
    refine g_iconst (pc' := 20) (v := (0 : Int32)) hc rfl zki_0 rfl ?_
    replace h := zws h
    exact g_ireturn hc rfl rfl rfl (fun _ => ⟨rfl, rfl⟩) h
  · by_cases hE : E4 = x_N
    · replace h := zwp_t h hE
      replace h := zws h
      exact z_poh (L' := [(59, none, o1), (60, none, o2)]) (K' := [(107, none, (J 107))]) (zhd1 (e := 12) (pc := 7) rfl hE) rfl rfl rfl rfl rfl rfl rfl rfl h
    replace h := zwp_f h hE
    exact (zwn h).elim
set_option maxRecDepth 4000 in
theorem ok_X11_toStop_0_p {I : pI} {J : pJ} {a1 : Int32} {a2 : Int32} {a3 : Int32} {Q : pQ} {d : Nat} (hd : 8 ≤ d) (h : zwp (f_X11_toStop a1 a2 a3 (I 54) (I 53 3) (I 56) (I 53 0) (I 57) (I 53 1) (I 55) (J 53 2) (I 52) (I 32) (I 31 3) (I 34) (I 31 0) (I 35) (I 31 1) (I 33) (J 31 2) (I 7 12) (I 7 3) (I 15) (I 13 2) (I 14) (I 7 1) (I 18) (I 16 2) (I 17) (I 12) (I 7 9) (I 9) (I 10) (I 7 0)) (fun w => match w with | (.inl r, o0, o1, o2, o3, o4, o5, o6, o7, o8, o9, o10) => Q (.inl (some (.int r))) (zS 7 19 I [(14, none, o9), (17, none, o10), (52, none, o8), (53, some 0, fun _ => o3), (53, some 1, fun _ => o5), (53, some 3, fun _ => o1), (54, none, o0), (55, none, o6), (56, none, o2), (57, none, o4)] J [(53, some 2, fun _ => o7)]) | (.inr E, o0, o1, o2, o3, o4, o5, o6, o7, o8, o9, o10) => Q (.inr E) (zS 7 19 I [(14, none, o9), (17, none, o10), (52, none, o8), (53, some 0, fun _ => o3), (53, some 1, fun _ => o5), (53, some 3, fun _ => o1), (54, none, o0), (55, none, o6), (56, none, o2), (57, none, o4)] J [(53, some 2, fun _ => o7)]))) : pm_call M cost zext d 116 [.ref 0, .int a1, .int a2, .int a3] (pm_st 108 (shp 7 19) I J) Q := by
  obtain ⟨d, rfl⟩ := zd1 hd rfl
  have hc := pm_call_m (M := M) (cost := cost) zext_m d
  refine z_in (L := [(14, none, (I 14)), (17, none, (I 17)), (52, none, (I 52)), (53, some 0, fun _ => (I 53 0)), (53, some 1, fun _ => (I 53 1)), (53, some 3, fun _ => (I 53 3)), (54, none, (I 54)), (55, none, (I 55)), (56, none, (I 56)), (57, none, (I 57))]) (K := [(53, some 2, fun _ => (J 53 2))]) (ls := [some (.ref 0), some (.int a1), some (.int a2), some (.int a3), none]) zmt_116 zco_116 rfl rfl (zid_a (zid_a (zid_a (zid_s (zid_s (zid_s (zid_a (zid_a (zid_a (zid_a zid_n)))))))))) (zid_s zid_n) ?_
  delta f_X11_toStop at h
  refine g_aload_n (pc' := 1)  hc rfl rfl rfl rfl ?_
  refine g_iload_n (pc' := 2)  hc rfl rfl rfl ?_
  refine z_virt (as := [.int a1]) (a := 0) (r := []) hc rfl rfl rfl rfl sh_0 rfl zco_133 rfl rfl rfl ?_
  refine ok_X11_checkFigure_0_p (zdp hd rfl) (zwp_mono (zwp_bind h) ?_)
  rintro (⟨⟩ | E1) h
  · refine z_po (pc' := 5) (st' := []) (v := none) (L' := [(14, none, (I 14)), (17, none, (I 17)), (52, none, (I 52)), (53, some 0, fun _ => (I 53 0)), (53, some 1, fun _ => (I 53 1)), (53, some 3, fun _ => (I 53 3)), (54, none, (I 54)), (55, none, (I 55)), (56, none, (I 56)), (57, none, (I 57))]) (K' := [(53, some 2, fun _ => (J 53 2))]) zco_133 rfl rfl rfl rfl rfl rfl rfl rfl ?_
    refine g_aload_n (pc' := 6)  hc rfl rfl rfl rfl ?_
    refine g_iload_n (pc' := 7)  hc rfl rfl rfl ?_
    refine z_virt (as := [.int a2]) (a := 0) (r := []) hc rfl rfl rfl rfl sh_0 rfl zco_134 rfl rfl rfl ?_
    refine ok_X11_checkCell_0_p (zdp hd rfl) (zwp_mono (zwp_bind h) ?_)
    rintro (⟨⟩ | E2) h
    · refine z_po (pc' := 10) (st' := []) (v := none) (L' := [(14, none, (I 14)), (17, none, (I 17)), (52, none, (I 52)), (53, some 0, fun _ => (I 53 0)), (53, some 1, fun _ => (I 53 1)), (53, some 3, fun _ => (I 53 3)), (54, none, (I 54)), (55, none, (I 55)), (56, none, (I 56)), (57, none, (I 57))]) (K' := [(53, some 2, fun _ => (J 53 2))]) zco_134 rfl rfl rfl rfl rfl rfl rfl rfl ?_
      refine g_iload_n (pc' := 11)  hc rfl rfl rfl ?_
      refine g_iconst (pc' := 12) (v := (0 : Int32)) hc rfl zki_0 rfl ?_
      refine g_bipush (pc' := 14) (v := (100 : Int32)) hc rfl zkb_100 rfl ?_
      refine z_stat (as := [.int a3, .int (0 : Int32), .int (100 : Int32)]) (r := []) hc rfl rfl rfl rfl zco_136 rfl rfl rfl ?_
      refine ok_X11_checkHours (zdp hd rfl) (zwp_mono (zwp_bind h) ?_)
      rintro (⟨⟩ | E3) h
      · refine z_po (pc' := 17) (st' := []) (v := none) (L' := [(14, none, (I 14)), (17, none, (I 17)), (52, none, (I 52)), (53, some 0, fun _ => (I 53 0)), (53, some 1, fun _ => (I 53 1)), (53, some 3, fun _ => (I 53 3)), (54, none, (I 54)), (55, none, (I 55)), (56, none, (I 56)), (57, none, (I 57))]) (K' := [(53, some 2, fun _ => (J 53 2))]) zco_136 rfl rfl rfl rfl rfl rfl rfl rfl ?_
        refine g_iconst (pc' := 18) (v := (0 : Int32)) hc rfl zki_0 rfl ?_
        refine g_istore (pc' := 20) (ls1 := [some (.ref 0), some (.int a1), some (.int a2), some (.int a3), some (.int (0 : Int32))]) hc rfl (zlt rfl) rfl rfl ?_
        refine zjs (G := (fun (g : (Nat → Int32) × Int32 × (Nat → Int32) × Int32 × (Nat → Int32) × Int32 × (Nat → Int32) × Int64 × (Nat → Int32) × (Nat → Int32) × (Nat → Int32)) => match g with | (y17, y18, y19, y20, y21, y22, y23, y24, y25, y26, y27) => ∀ z16 : Option Value, znl z16 = true → pm_ev C_X11_toStop (d + 1) (pm_call M cost zext d) cost (false, false) 108 1 6 Q 87 [some (.ref 0), some (.int a1), some (.int a2), some (.int a3), z16] [] 0 0 (zS 7 19 I [(14, none, y26), (17, none, y27), (52, none, y25), (53, some 0, fun _ => y20), (53, some 1, fun _ => y22), (53, some 3, fun _ => y18), (54, none, y17), (55, none, y23), (56, none, y19), (57, none, y21)] J [(53, some 2, fun _ => y24)]))) h ?_ (fun h => ?_)
        · rintro ⟨y17, y18, y19, y20, y21, y22, y23, y24, y25, y26, y27⟩ h z16 hz16
          refine g_iconst (pc' := 88) (v := (-1 : Int32)) hc rfl zki_m1 rfl ?_
          replace h := zws h
          exact g_ireturn hc rfl rfl rfl (fun _ => ⟨rfl, rfl⟩) h
        refine zitr_ev (G := (fun (g : Int32 × (Nat → Int32) × Int32 × (Nat → Int32) × Int32 × (Nat → Int32) × Int32 × (Nat → Int32) × Int64 × (Nat → Int32) × (Nat → Int32) × (Nat → Int32)) => match g with | (x4, x5, x6, x7, x8, x9, x10, x11, x12, x13, x14, x15) => pm_ev C_X11_toStop (d + 1) (pm_call M cost zext d) cost (false, false) 108 1 6 Q 20 [some (.ref 0), some (.int a1), some (.int a2), some (.int a3), some (.int x4)] [] 0 0 (zS 7 19 I [(14, none, x14), (17, none, x15), (52, none, x13), (53, some 0, fun _ => x8), (53, some 1, fun _ => x10), (53, some 3, fun _ => x6), (54, none, x5), (55, none, x11), (56, none, x7), (57, none, x9)] J [(53, some 2, fun _ => x12)]))) ?_ zFU ((0 : Int32), (I 54), (I 53 3), (I 56), (I 53 0), (I 57), (I 53 1), (I 55), (J 53 2), (I 52), (I 14), (I 17)) h
        rintro ⟨x4, x5, x6, x7, x8, x9, x10, x11, x12, x13, x14, x15⟩ h
        refine g_iload (pc' := 22)  hc rfl rfl rfl ?_
        refine g_bipush (pc' := 24) (v := (9 : Int32)) hc rfl zkb_9 rfl ?_
        refine g_icmp_gt (pc' := 27) hc rfl rfl (fun hx => ?_) (fun hx => ?_)
        · replace h := zwp_t h hx
          replace h := zwp_r h
          exact h (some (.int x4)) rfl
        · replace h := zwp_f h hx
          refine g_aload_n (pc' := 28)  hc rfl rfl rfl rfl ?_
          refine z_getR (pc' := 31)  hc rfl rfl rfl sh_0 rfl rfl ?_
          refine g_aload_n (pc' := 32)  hc rfl rfl rfl rfl ?_
          refine z_getR (pc' := 35)  hc rfl rfl rfl sh_0 rfl rfl ?_
          refine z_virt (as := [.ref 31]) (a := 53) (r := []) hc rfl rfl rfl rfl sh_53 rfl zco_68 rfl rfl rfl ?_
          refine ok_X8_copyFrom_53_31 (zdp hd rfl) (zwp_mono (zwp_bind h) ?_)
          rintro ⟨o28, o29, o30, o31, o32, o33, o34, o35⟩ h
          refine z_po (pc' := 38) (st' := []) (v := none) (L' := [(14, none, x14), (17, none, x15), (52, none, x13), (53, some 0, fun _ => o31), (53, some 1, fun _ => o33), (53, some 3, fun _ => o29), (54, none, o28), (55, none, o34), (56, none, o30), (57, none, o32)]) (K' := [(53, some 2, fun _ => o35)]) zco_68 rfl rfl rfl rfl rfl rfl rfl rfl ?_
          refine g_aload_n (pc' := 39)  hc rfl rfl rfl rfl ?_
          refine z_getR (pc' := 42)  hc rfl rfl rfl sh_0 rfl rfl ?_
          refine z_getR (pc' := 45)  hc rfl rfl rfl sh_53 rfl rfl ?_
          refine g_iload_n (pc' := 46)  hc rfl rfl rfl ?_
          refine g_iload (pc' := 48)  hc rfl rfl rfl ?_
          have hb := (zwp_bnd h).1
          replace h := (zwp_bnd h).2
          refine z_iastore (pc' := 49) (g := o30) (L' := [(14, none, x14), (17, none, x15), (52, none, x13), (53, some 0, fun _ => o31), (53, some 1, fun _ => o33), (53, some 3, fun _ => o29), (54, none, o28), (55, none, o34), (56, none, (upd o30 a1.toNatClampNeg x4)), (57, none, o32)]) hc rfl rfl sh_56 hb rfl rfl rfl rfl ?_
          refine g_aload_n (pc' := 50)  hc rfl rfl rfl rfl ?_
          refine z_getR (pc' := 53)  hc rfl rfl rfl sh_0 rfl rfl ?_
          refine g_aload_n (pc' := 54)  hc rfl rfl rfl rfl ?_
          refine z_getR (pc' := 57)  hc rfl rfl rfl sh_0 rfl rfl ?_
          refine g_aload_n (pc' := 58)  hc rfl rfl rfl rfl ?_
          refine z_getR (pc' := 61)  hc rfl rfl rfl sh_0 rfl rfl ?_
          refine g_iload_n (pc' := 62)  hc rfl rfl rfl ?_
          refine z_virt (as := [.ref 7, .ref 53, .int a3]) (a := 51) (r := []) hc rfl rfl rfl rfl sh_51 rfl zco_13 rfl rfl rfl ?_
          refine ok_X2_passHours_51_7_53 (zdp hd rfl) (zwp_mono (zwp_bind h) ?_)
          rintro ⟨o36, o37, o38, o39, o40, o41, o42⟩ h
          refine z_po (pc' := 65) (st' := []) (v := none) (L' := [(14, none, o36), (17, none, o37), (52, none, o42), (53, some 0, fun _ => o40), (53, some 1, fun _ => o33), (53, some 3, fun _ => o29), (54, none, o38), (55, none, o41), (56, none, o39), (57, none, o32)]) (K' := [(53, some 2, fun _ => o35)]) zco_13 rfl rfl rfl rfl rfl rfl rfl rfl ?_
          refine g_aload_n (pc' := 66)  hc rfl rfl rfl rfl ?_
          refine z_getR (pc' := 69)  hc rfl rfl rfl sh_0 rfl rfl ?_
          refine z_getR (pc' := 72)  hc rfl rfl rfl sh_53 rfl rfl ?_
          refine g_iload_n (pc' := 73)  hc rfl rfl rfl ?_
          have hb := (zwp_bnd h).1
          replace h := (zwp_bnd h).2
          refine z_iaload (pc' := 74) (v := (o38 a1.toNatClampNeg)) hc rfl rfl sh_54 hb rfl rfl ?_
          refine g_iload_n (pc' := 75)  hc rfl rfl rfl ?_
          refine g_icmp_ne (pc' := 78) hc rfl rfl (fun hx => ?_) (fun hx => ?_)
          · replace h := zwp_f h hx
            refine g_iinc (pc' := 84) (ls1 := [some (.ref 0), some (.int a1), some (.int a2), some (.int a3), some (.int (x4 + (1 : Int32)))]) hc rfl rfl zki_1 (zlt rfl) rfl rfl ?_
            refine g_goto hc rfl ?_
            replace h := zwp_l h
            exact h
          · replace h := zwp_t h hx
            refine g_iload (pc' := 80)  hc rfl rfl rfl ?_
            replace h := zws h
            exact g_ireturn hc rfl rfl rfl (fun _ => ⟨rfl, rfl⟩) h
      · replace h := zws h
        exact z_pox (L' := [(14, none, (I 14)), (17, none, (I 17)), (52, none, (I 52)), (53, some 0, fun _ => (I 53 0)), (53, some 1, fun _ => (I 53 1)), (53, some 3, fun _ => (I 53 3)), (54, none, (I 54)), (55, none, (I 55)), (56, none, (I 56)), (57, none, (I 57))]) (K' := [(53, some 2, fun _ => (J 53 2))]) rfl rfl rfl rfl rfl rfl rfl h
    · replace h := zws h
      exact z_pox (L' := [(14, none, (I 14)), (17, none, (I 17)), (52, none, (I 52)), (53, some 0, fun _ => (I 53 0)), (53, some 1, fun _ => (I 53 1)), (53, some 3, fun _ => (I 53 3)), (54, none, (I 54)), (55, none, (I 55)), (56, none, (I 56)), (57, none, (I 57))]) (K' := [(53, some 2, fun _ => (J 53 2))]) rfl rfl rfl rfl rfl rfl rfl h
  · replace h := zws h
    exact z_pox (L' := [(14, none, (I 14)), (17, none, (I 17)), (52, none, (I 52)), (53, some 0, fun _ => (I 53 0)), (53, some 1, fun _ => (I 53 1)), (53, some 3, fun _ => (I 53 3)), (54, none, (I 54)), (55, none, (I 55)), (56, none, (I 56)), (57, none, (I 57))]) (K' := [(53, some 2, fun _ => (J 53 2))]) rfl rfl rfl rfl rfl rfl rfl h
set_option maxRecDepth 4000 in
theorem ok_L_toStop_0_107_p {I : pI} {J : pJ} {a1 : Int32} {a2 : Int32} {a3 : Int32} {Q : pQ} {d : Nat} (hd : 9 ≤ d) (h : zwp (f_L_toStop a1 a2 a3 1 (J 107) (I 54) (I 53 3) (I 56) (I 53 0) (I 57) (I 53 1) (I 55) (J 53 2) (I 52) (I 32) (I 31 3) (I 34) (I 31 0) (I 35) (I 31 1) (I 33) (J 31 2) (I 7 12) (I 7 3) (I 15) (I 13 2) (I 14) (I 7 1) (I 18) (I 16 2) (I 17) (I 12) (I 7 9) (I 9) (I 10) (I 7 0)) (fun w => match w with | (r, o0, o1, o2, o3, o4, o5, o6, o7, o8, o9, o10, o11) => Q (.inl (some (.int r))) (zS 7 19 I [(14, none, o10), (17, none, o11), (52, none, o9), (53, some 0, fun _ => o4), (53, some 1, fun _ => o6), (53, some 3, fun _ => o2), (54, none, o1), (55, none, o7), (56, none, o3), (57, none, o5)] J [(53, some 2, fun _ => o8), (107, none, o0)]))) : pm_call M cost zext d 286 [.ref 0, .int a1, .int a2, .int a3, .ref 107] (pm_st 108 (shp 7 19) I J) Q := by
  obtain ⟨d, rfl⟩ := zd1 hd rfl
  have hc := pm_call_m (M := M) (cost := cost) zext_m d
  refine z_in (L := [(14, none, (I 14)), (17, none, (I 17)), (52, none, (I 52)), (53, some 0, fun _ => (I 53 0)), (53, some 1, fun _ => (I 53 1)), (53, some 3, fun _ => (I 53 3)), (54, none, (I 54)), (55, none, (I 55)), (56, none, (I 56)), (57, none, (I 57))]) (K := [(53, some 2, fun _ => (J 53 2)), (107, none, (J 107))]) (ls := [some (.ref 0), some (.int a1), some (.int a2), some (.int a3), some (.ref 107), none]) zmt_286 zco_286 rfl rfl (zid_a (zid_a (zid_a (zid_s (zid_s (zid_s (zid_a (zid_a (zid_a (zid_a zid_n)))))))))) (zid_s (zid_a zid_n)) ?_
  delta f_L_toStop at h
  refine g_aload (pc' := 2)  hc rfl rfl rfl rfl ?_
  refine g_iconst (pc' := 3) (v := (0 : Int32)) hc rfl zki_0 rfl ?_
  refine g_aload_n (pc' := 4)  hc rfl rfl rfl rfl ?_
  refine g_iload_n (pc' := 5)  hc rfl rfl rfl ?_
  refine g_iload_n (pc' := 6)  hc rfl rfl rfl ?_
  refine g_iload_n (pc' := 7)  hc rfl rfl rfl ?_
  refine z_virt (as := [.int a1, .int a2, .int a3]) (a := 0) (r := [.int (0 : Int32), .ref 107]) hc rfl rfl rfl rfl sh_0 rfl zco_116 rfl rfl rfl ?_
  refine ok_X11_toStop_0_p (zdp hd rfl) (zwp_mono (zwp_bind h) ?_)
  rintro ⟨(r12 | E13), o1, o2, o3, o4, o5, o6, o7, o8, o9, o10, o11⟩ h
  · refine z_po (pc' := 10) (st' := [.int r12, .int (0 : Int32), .ref 107]) (v := (some (.int r12))) (L' := [(14, none, o10), (17, none, o11), (52, none, o9), (53, some 0, fun _ => o4), (53, some 1, fun _ => o6), (53, some 3, fun _ => o2), (54, none, o1), (55, none, o7), (56, none, o3), (57, none, o5)]) (K' := [(53, some 2, fun _ => o8), (107, none, (J 107))]) zco_116 rfl rfl rfl rfl rfl rfl rfl rfl ?_
    refine g_i2l (pc' := 11)  hc rfl rfl ?_
    have hb := (zwp_bnd h).1
    replace h := (zwp_bnd h).2
    refine z_lastore (pc' := 12) (g := (J 107)) (K' := [(53, some 2, fun _ => o8), (107, none, (vp_updL ((J 107)) (0 : Int32).toNatClampNeg r12.toInt64))]) hc rfl rfl sh_107 hb rfl rfl rfl rfl ?_
    refine g_goto hc rfl ?_
    refine g_iconst (pc' := 24) (v := (0 : Int32)) hc rfl zki_0 rfl ?_
    replace h := zws h
    exact g_ireturn hc rfl rfl rfl (fun _ => ⟨rfl, rfl⟩) h
  · by_cases hE : E13 = x_N
    · replace h := zwp_t h hE
      replace h := zws h
      exact z_poh (L' := [(14, none, o10), (17, none, o11), (52, none, o9), (53, some 0, fun _ => o4), (53, some 1, fun _ => o6), (53, some 3, fun _ => o2), (54, none, o1), (55, none, o7), (56, none, o3), (57, none, o5)]) (K' := [(53, some 2, fun _ => o8), (107, none, (J 107))]) (zhd2a (e := 12) (pc := 7) rfl hE) rfl rfl rfl rfl rfl rfl rfl rfl h
    replace h := zwp_f h hE
    have hN := hE
    by_cases hE : E13 = x_I
    · replace h := zwp_t h hE
      replace h := zws h
      exact z_poh (L' := [(14, none, o10), (17, none, o11), (52, none, o9), (53, some 0, fun _ => o4), (53, some 1, fun _ => o6), (53, some 3, fun _ => o2), (54, none, o1), (55, none, o7), (56, none, o3), (57, none, o5)]) (K' := [(53, some 2, fun _ => o8), (107, none, (J 107))]) (zhd2b (e := 12) (pc := 7) rfl hN hE) rfl rfl rfl rfl rfl rfl rfl rfl h
    replace h := zwp_f h hE
    exact (zwn h).elim
set_option maxRecDepth 4000 in
theorem ok_J7_fill_53178_73 {p q : Nat} {I : pI} {J : pJ} {a1 : Int32} {Q : pQ} {d : Nat} (hd : 1 ≤ d) (h : zwp (f_J7_fill_53178 a1 8 (I 73)) (fun o0 => Q (.inl none) (zS p q I [(73, none, o0)] J []))) : pm_call M cost zext d 268 [.ref 73, .int a1] (pm_st 108 (shp p q) I J) Q := by
  obtain ⟨d, rfl⟩ := zd1 hd rfl
  have hc := pm_call_m (M := M) (cost := cost) zext_m d
  refine z_in (L := [(73, none, (I 73))]) (K := []) (ls := [some (.ref 73), some (.int a1), none, none]) zmt_268 zco_268 rfl rfl (zid_a zid_n) zid_n ?_
  delta f_J7_fill_53178 at h
  refine g_iconst (pc' := 1) (v := (0 : Int32)) hc rfl zki_0 rfl ?_
  refine g_istore_n (pc' := 2) (ls1 := [some (.ref 73), some (.int a1), some (.int (0 : Int32)), none]) hc rfl (zlt rfl) rfl rfl ?_
  refine g_aload_n (pc' := 3)  hc rfl rfl rfl rfl ?_
  refine z_alen (pc' := 4) (v := (Int32.ofNat 8)) hc rfl rfl sh_73 ⟨by decide, by decide⟩ rfl rfl ?_
  refine g_istore_n (pc' := 5) (ls1 := [some (.ref 73), some (.int a1), some (.int (0 : Int32)), some (.int (Int32.ofNat 8))]) hc rfl (zlt rfl) rfl rfl ?_
  refine zjn (G := (fun (y4 : (Nat → Int32)) => ∀ z3 : Option Value, znl z3 = true → pm_ev C_J7_fill_53178 (d + 1) (pm_call M cost zext d) cost (false, false) 108 0 0 Q 20 [some (.ref 73), some (.int a1), z3, some (.int (Int32.ofNat 8))] [] 0 0 (zS p q I [(73, none, y4)] J []))) (zwp_bind h) ?_ (fun h => ?_)
  · rintro y4 h z3 hz3
    replace h := zws h
    exact g_return hc rfl rfl (fun _ => ⟨rfl, rfl⟩) h
  refine zitr_ev (G := (fun (g : Int32 × (Nat → Int32)) => match g with | (x1, x2) => pm_ev C_J7_fill_53178 (d + 1) (pm_call M cost zext d) cost (false, false) 108 0 0 Q 5 [some (.ref 73), some (.int a1), some (.int x1), some (.int (Int32.ofNat 8))] [] 0 0 (zS p q I [(73, none, x2)] J []))) ?_ zFU ((0 : Int32), (I 73)) h
  rintro ⟨x1, x2⟩ h
  refine g_iload_n (pc' := 6)  hc rfl rfl rfl ?_
  refine g_iload_n (pc' := 7)  hc rfl rfl rfl ?_
  refine g_icmp_ge (pc' := 10) hc rfl rfl (fun hx => ?_) (fun hx => ?_)
  · replace h := zwp_t h hx
    replace h := zwp_r h
    exact h (some (.int x1)) rfl
  · replace h := zwp_f h hx
    refine g_aload_n (pc' := 11)  hc rfl rfl rfl rfl ?_
    refine g_iload_n (pc' := 12)  hc rfl rfl rfl ?_
    refine g_iload_n (pc' := 13)  hc rfl rfl rfl ?_
    have hb := (zwp_bnd h).1
    replace h := (zwp_bnd h).2
    refine z_iastore (pc' := 14) (g := x2) (L' := [(73, none, (upd x2 x1.toNatClampNeg a1))]) hc rfl rfl sh_73 hb rfl rfl rfl rfl ?_
    refine g_iinc (pc' := 17) (ls1 := [some (.ref 73), some (.int a1), some (.int (x1 + (1 : Int32))), some (.int (Int32.ofNat 8))]) hc rfl rfl zki_1 (zlt rfl) rfl rfl ?_
    refine g_goto hc rfl ?_
    replace h := zwp_l h
    exact h
set_option maxRecDepth 4000 in
theorem ok_X11_addMeetings_0_p {I : pI} {J : pJ} {Q : pQ} {d : Nat} (hd : 2 ≤ d) (h : zwp (f_X11_addMeetings (I 54) (I 53 3) (I 73) (I 7 3)) (fun o0 => Q (.inl none) (zS 7 19 I [(73, none, o0)] J []))) : pm_call M cost zext d 141 [.ref 0] (pm_st 108 (shp 7 19) I J) Q := by
  obtain ⟨d, rfl⟩ := zd1 hd rfl
  have hc := pm_call_m (M := M) (cost := cost) zext_m d
  refine z_in (L := [(73, none, (I 73))]) (K := []) (ls := [some (.ref 0), none]) zmt_141 zco_141 rfl rfl (zid_a zid_n) zid_n ?_
  delta f_X11_addMeetings at h
  refine g_iconst (pc' := 1) (v := (0 : Int32)) hc rfl zki_0 rfl ?_
  refine g_istore_n (pc' := 2) (ls1 := [some (.ref 0), some (.int (0 : Int32))]) hc rfl (zlt rfl) rfl rfl ?_
  refine zjn (G := (fun (y4 : (Nat → Int32)) => ∀ z3 : Option Value, znl z3 = true → pm_ev C_X11_addMeetings (d + 1) (pm_call M cost zext d) cost (false, false) 108 0 0 Q 54 [some (.ref 0), z3] [] 0 0 (zS 7 19 I [(73, none, y4)] J []))) (zwp_bind h) ?_ (fun h => ?_)
  · rintro y4 h z3 hz3
    replace h := zws h
    exact g_return hc rfl rfl (fun _ => ⟨rfl, rfl⟩) h
  refine zitr_ev (G := (fun (g : Int32 × (Nat → Int32)) => match g with | (x1, x2) => pm_ev C_X11_addMeetings (d + 1) (pm_call M cost zext d) cost (false, false) 108 0 0 Q 2 [some (.ref 0), some (.int x1)] [] 0 0 (zS 7 19 I [(73, none, x2)] J []))) ?_ zFU ((0 : Int32), (I 73)) h
  rintro ⟨x1, x2⟩ h
  refine g_iload_n (pc' := 3)  hc rfl rfl rfl ?_
  refine g_aload_n (pc' := 4)  hc rfl rfl rfl rfl ?_
  refine z_getR (pc' := 7)  hc rfl rfl rfl sh_0 rfl rfl ?_
  refine z_getI (pc' := 10) (v := (I 7 3)) hc rfl rfl rfl sh_7 rfl rfl rfl ?_
  refine g_icmp_ge (pc' := 13) hc rfl rfl (fun hx => ?_) (fun hx => ?_)
  · replace h := zwp_t h hx
    replace h := zwp_r h
    exact h (some (.int x1)) rfl
  · replace h := zwp_f h hx
    refine g_aload_n (pc' := 14)  hc rfl rfl rfl rfl ?_
    refine z_getR (pc' := 17)  hc rfl rfl rfl sh_0 rfl rfl ?_
    refine g_iload_n (pc' := 18)  hc rfl rfl rfl ?_
    refine g_aload_n (pc' := 19)  hc rfl rfl rfl rfl ?_
    refine z_getR (pc' := 22)  hc rfl rfl rfl sh_0 rfl rfl ?_
    refine g_iload_n (pc' := 23)  hc rfl rfl rfl ?_
    have hb := (zwp_bnd h).1
    replace h := (zwp_bnd h).2
    refine z_iaload (pc' := 24) (v := (x2 x1.toNatClampNeg)) hc rfl rfl sh_73 hb rfl rfl ?_
    refine g_aload_n (pc' := 25)  hc rfl rfl rfl rfl ?_
    refine z_getR (pc' := 28)  hc rfl rfl rfl sh_0 rfl rfl ?_
    refine g_aload_n (pc' := 29)  hc rfl rfl rfl rfl ?_
    refine z_getR (pc' := 32)  hc rfl rfl rfl sh_0 rfl rfl ?_
    refine z_getR (pc' := 35)  hc rfl rfl rfl sh_53 rfl rfl ?_
    refine g_iload_n (pc' := 36)  hc rfl rfl rfl ?_
    have hb := (zwp_bnd h).1
    replace h := (zwp_bnd h).2
    refine z_iaload (pc' := 37) (v := (((I 54)) x1.toNatClampNeg)) hc rfl rfl sh_54 hb rfl rfl ?_
    refine z_virt (as := [.int (((I 54)) x1.toNatClampNeg)]) (a := 53) (r := [.int (x2 x1.toNatClampNeg), .int x1, .ref 73]) hc rfl rfl rfl rfl sh_53 rfl zco_72 rfl rfl rfl ?_
    refine ok_X8_figuresAt_53 (zdp hd rfl) (zwp_mono (zwp_bind h) ?_)
    rintro r5 h
    refine z_po (pc' := 40) (st' := [.int r5, .int (x2 x1.toNatClampNeg), .int x1, .ref 73]) (v := (some (.int r5))) (L' := [(73, none, x2)]) (K' := []) zco_72 rfl rfl rfl rfl rfl rfl rfl rfl ?_
    refine g_iconst (pc' := 41) (v := (1 : Int32)) hc rfl zki_1 rfl ?_
    refine g_iload_n (pc' := 42)  hc rfl rfl rfl ?_
    refine g_ishl (pc' := 43)  hc rfl rfl ?_
    refine g_iconst (pc' := 44) (v := (-1 : Int32)) hc rfl zki_m1 rfl ?_
    refine g_ixor (pc' := 45)  hc rfl rfl ?_
    refine g_iand (pc' := 46)  hc rfl rfl ?_
    refine g_ior (pc' := 47)  hc rfl rfl ?_
    have hb := (zwp_bnd h).1
    replace h := (zwp_bnd h).2
    refine z_iastore (pc' := 48) (g := x2) (L' := [(73, none, (upd x2 x1.toNatClampNeg ((x2 x1.toNatClampNeg) ||| (r5 &&& (((1 : Int32) <<< (x1 &&& 31)) ^^^ (-1 : Int32))))))]) hc rfl rfl sh_73 hb rfl rfl rfl rfl ?_
    refine g_iinc (pc' := 51) (ls1 := [some (.ref 0), some (.int (x1 + (1 : Int32)))]) hc rfl rfl zki_1 (zlt rfl) rfl rfl ?_
    refine g_goto hc rfl ?_
    replace h := zwp_l h
    exact h
set_option maxRecDepth 4000 in
theorem ok_X11_noneMeets_0_p {I : pI} {J : pJ} {a1 : Int32} {Q : pQ} {d : Nat} (hd : 1 ≤ d) (h : zwp (f_X11_noneMeets a1 (I 73) (I 7 3)) (fun r => Q (.inl (some (.int r))) (zS 7 19 I [] J []))) : pm_call M cost zext d 142 [.ref 0, .int a1] (pm_st 108 (shp 7 19) I J) Q := by
  obtain ⟨d, rfl⟩ := zd1 hd rfl
  have hc := pm_call_m (M := M) (cost := cost) zext_m d
  refine z_in (L := []) (K := []) (ls := [some (.ref 0), some (.int a1), none]) zmt_142 zco_142 rfl rfl zid_n zid_n ?_
  delta f_X11_noneMeets at h
  refine g_iconst (pc' := 1) (v := (0 : Int32)) hc rfl zki_0 rfl ?_
  refine g_istore_n (pc' := 2) (ls1 := [some (.ref 0), some (.int a1), some (.int (0 : Int32))]) hc rfl (zlt rfl) rfl rfl ?_
  refine zjs (G := (fun (_ : Unit) => ∀ z2 : Option Value, znl z2 = true → pm_ev C_X11_noneMeets (d + 1) (pm_call M cost zext d) cost (false, false) 108 0 0 Q 42 [some (.ref 0), some (.int a1), z2] [] 0 0 (zS 7 19 I [] J []))) h ?_ (fun h => ?_)
  · rintro _ h z2 hz2
    refine g_iconst (pc' := 43) (v := (1 : Int32)) hc rfl zki_1 rfl ?_
    replace h := zws h
    exact g_ireturn hc rfl rfl rfl (fun _ => ⟨rfl, rfl⟩) h
  refine zitr_ev (G := (fun (x1 : Int32) => pm_ev C_X11_noneMeets (d + 1) (pm_call M cost zext d) cost (false, false) 108 0 0 Q 2 [some (.ref 0), some (.int a1), some (.int x1)] [] 0 0 (zS 7 19 I [] J []))) ?_ zFU (0 : Int32) h
  rintro x1 h
  refine g_iload_n (pc' := 3)  hc rfl rfl rfl ?_
  refine g_aload_n (pc' := 4)  hc rfl rfl rfl rfl ?_
  refine z_getR (pc' := 7)  hc rfl rfl rfl sh_0 rfl rfl ?_
  refine z_getI (pc' := 10) (v := (I 7 3)) hc rfl rfl rfl sh_7 rfl rfl rfl ?_
  refine g_icmp_ge (pc' := 13) hc rfl rfl (fun hx => ?_) (fun hx => ?_)
  · replace h := zwp_t h hx
    replace h := zwp_r h
    exact h (some (.int x1)) rfl
  · replace h := zwp_f h hx
    refine g_iload_n (pc' := 14)  hc rfl rfl rfl ?_
    refine g_iload_n (pc' := 15)  hc rfl rfl rfl ?_
    refine g_ishr (pc' := 16)  hc rfl rfl ?_
    refine g_iconst (pc' := 17) (v := (1 : Int32)) hc rfl zki_1 rfl ?_
    refine g_iand (pc' := 18)  hc rfl rfl ?_
    refine g_if_ne (pc' := 21) hc rfl rfl (fun hx => ?_) (fun hx => ?_)
    · replace h := zwp_f h hx
      refine g_iinc (pc' := 39) (ls1 := [some (.ref 0), some (.int a1), some (.int (x1 + (1 : Int32)))]) hc rfl rfl zki_1 (zlt rfl) rfl rfl ?_
      refine g_goto hc rfl ?_
      replace h := zwp_l h
      exact h
    · replace h := zwp_t h hx
      refine g_aload_n (pc' := 22)  hc rfl rfl rfl rfl ?_
      refine z_getR (pc' := 25)  hc rfl rfl rfl sh_0 rfl rfl ?_
      refine g_iload_n (pc' := 26)  hc rfl rfl rfl ?_
      have hb := (zwp_bnd h).1
      replace h := (zwp_bnd h).2
      refine z_iaload (pc' := 27) (v := (((I 73)) x1.toNatClampNeg)) hc rfl rfl sh_73 hb rfl rfl ?_
      refine g_iload_n (pc' := 28)  hc rfl rfl rfl ?_
      refine g_iconst (pc' := 29) (v := (-1 : Int32)) hc rfl zki_m1 rfl ?_
      refine g_ixor (pc' := 30)  hc rfl rfl ?_
      refine g_iand (pc' := 31)  hc rfl rfl ?_
      refine g_if_eq (pc' := 34) hc rfl rfl (fun hx => ?_) (fun hx => ?_)
      · replace h := zwp_t h hx
        refine g_iinc (pc' := 39) (ls1 := [some (.ref 0), some (.int a1), some (.int (x1 + (1 : Int32)))]) hc rfl rfl zki_1 (zlt rfl) rfl rfl ?_
        refine g_goto hc rfl ?_
        replace h := zwp_l h
        exact h
      · replace h := zwp_f h hx
        refine g_iconst (pc' := 35) (v := (0 : Int32)) hc rfl zki_0 rfl ?_
        replace h := zws h
        exact g_ireturn hc rfl rfl rfl (fun _ => ⟨rfl, rfl⟩) h
set_option maxRecDepth 4000 in
theorem ok_X11_toThin_0_p {I : pI} {J : pJ} {a1 : Int32} {Q : pQ} {d : Nat} (hd : 8 ≤ d) (h : zwp (f_X11_toThin a1 (I 54) (I 53 3) (I 56) (I 53 0) (I 57) (I 53 1) (I 55) (J 53 2) (I 73) (I 52) (I 32) (I 31 3) (I 34) (I 31 0) (I 35) (I 31 1) (I 33) (J 31 2) (I 7 12) (I 7 3) (I 15) (I 13 2) (I 14) (I 7 1) (I 18) (I 16 2) (I 17) (I 12) (I 7 9) (I 9) (I 10) (I 7 0)) (fun w => match w with | (.inl r, o0, o1, o2, o3, o4, o5, o6, o7, o8, o9, o10, o11) => Q (.inl (some (.int r))) (zS 7 19 I [(14, none, o10), (17, none, o11), (52, none, o9), (53, some 0, fun _ => o3), (53, some 1, fun _ => o5), (53, some 3, fun _ => o1), (54, none, o0), (55, none, o6), (56, none, o2), (57, none, o4), (73, none, o8)] J [(53, some 2, fun _ => o7)]) | (.inr E, o0, o1, o2, o3, o4, o5, o6, o7, o8, o9, o10, o11) => Q (.inr E) (zS 7 19 I [(14, none, o10), (17, none, o11), (52, none, o9), (53, some 0, fun _ => o3), (53, some 1, fun _ => o5), (53, some 3, fun _ => o1), (54, none, o0), (55, none, o6), (56, none, o2), (57, none, o4), (73, none, o8)] J [(53, some 2, fun _ => o7)]))) : pm_call M cost zext d 117 [.ref 0, .int a1] (pm_st 108 (shp 7 19) I J) Q := by
  obtain ⟨d, rfl⟩ := zd1 hd rfl
  have hc := pm_call_m (M := M) (cost := cost) zext_m d
  refine z_in (L := [(14, none, (I 14)), (17, none, (I 17)), (52, none, (I 52)), (53, some 0, fun _ => (I 53 0)), (53, some 1, fun _ => (I 53 1)), (53, some 3, fun _ => (I 53 3)), (54, none, (I 54)), (55, none, (I 55)), (56, none, (I 56)), (57, none, (I 57)), (73, none, (I 73))]) (K := [(53, some 2, fun _ => (J 53 2))]) (ls := [some (.ref 0), some (.int a1), none, none]) zmt_117 zco_117 rfl rfl (zid_a (zid_a (zid_a (zid_s (zid_s (zid_s (zid_a (zid_a (zid_a (zid_a (zid_a zid_n))))))))))) (zid_s zid_n) ?_
  delta f_X11_toThin at h
  refine g_iload_n (pc' := 1)  hc rfl rfl rfl ?_
  refine g_iconst (pc' := 2) (v := (0 : Int32)) hc rfl zki_0 rfl ?_
  refine g_bipush (pc' := 4) (v := (60 : Int32)) hc rfl zkb_60 rfl ?_
  refine z_stat (as := [.int a1, .int (0 : Int32), .int (60 : Int32)]) (r := []) hc rfl rfl rfl rfl zco_136 rfl rfl rfl ?_
  refine ok_X11_checkHours (zdp hd rfl) (zwp_mono (zwp_bind h) ?_)
  rintro (⟨⟩ | E1) h
  · refine z_po (pc' := 7) (st' := []) (v := none) (L' := [(14, none, (I 14)), (17, none, (I 17)), (52, none, (I 52)), (53, some 0, fun _ => (I 53 0)), (53, some 1, fun _ => (I 53 1)), (53, some 3, fun _ => (I 53 3)), (54, none, (I 54)), (55, none, (I 55)), (56, none, (I 56)), (57, none, (I 57)), (73, none, (I 73))]) (K' := [(53, some 2, fun _ => (J 53 2))]) zco_136 rfl rfl rfl rfl rfl rfl rfl rfl ?_
    refine g_aload_n (pc' := 8)  hc rfl rfl rfl rfl ?_
    refine z_getR (pc' := 11)  hc rfl rfl rfl sh_0 rfl rfl ?_
    refine g_iconst (pc' := 12) (v := (0 : Int32)) hc rfl zki_0 rfl ?_
    refine z_stat (as := [.ref 73, .int (0 : Int32)]) (r := []) hc rfl rfl rfl rfl zco_268 rfl rfl rfl ?_
    refine ok_J7_fill_53178_73 (zdp hd rfl) (zwp_mono (zwp_bind h) ?_)
    rintro o2 h
    refine z_po (pc' := 15) (st' := []) (v := none) (L' := [(14, none, (I 14)), (17, none, (I 17)), (52, none, (I 52)), (53, some 0, fun _ => (I 53 0)), (53, some 1, fun _ => (I 53 1)), (53, some 3, fun _ => (I 53 3)), (54, none, (I 54)), (55, none, (I 55)), (56, none, (I 56)), (57, none, (I 57)), (73, none, o2)]) (K' := [(53, some 2, fun _ => (J 53 2))]) zco_268 rfl rfl rfl rfl rfl rfl rfl rfl ?_
    refine g_aload_n (pc' := 16)  hc rfl rfl rfl rfl ?_
    refine g_iconst (pc' := 17) (v := (0 : Int32)) hc rfl zki_0 rfl ?_
    refine z_virt (as := [.int (0 : Int32)]) (a := 0) (r := []) hc rfl rfl rfl rfl sh_0 rfl zco_139 rfl rfl rfl ?_
    refine ok_X11_foresee_0_p (zdp hd rfl) (zwp_mono (zwp_bind h) ?_)
    rintro ⟨o3, o4, o5, o6, o7, o8, o9, o10, o11, o12, o13⟩ h
    refine z_po (pc' := 20) (st' := []) (v := none) (L' := [(14, none, o12), (17, none, o13), (52, none, o11), (53, some 0, fun _ => o6), (53, some 1, fun _ => o8), (53, some 3, fun _ => o4), (54, none, o3), (55, none, o9), (56, none, o5), (57, none, o7), (73, none, o2)]) (K' := [(53, some 2, fun _ => o10)]) zco_139 rfl rfl rfl rfl rfl rfl rfl rfl ?_
    refine g_aload_n (pc' := 21)  hc rfl rfl rfl rfl ?_
    refine z_virt (as := []) (a := 0) (r := []) hc rfl rfl rfl rfl sh_0 rfl zco_141 rfl rfl rfl ?_
    refine ok_X11_addMeetings_0_p (zdp hd rfl) (zwp_mono (zwp_bind h) ?_)
    rintro o14 h
    refine z_po (pc' := 24) (st' := []) (v := none) (L' := [(14, none, o12), (17, none, o13), (52, none, o11), (53, some 0, fun _ => o6), (53, some 1, fun _ => o8), (53, some 3, fun _ => o4), (54, none, o3), (55, none, o9), (56, none, o5), (57, none, o7), (73, none, o14)]) (K' := [(53, some 2, fun _ => o10)]) zco_141 rfl rfl rfl rfl rfl rfl rfl rfl ?_
    refine g_iconst (pc' := 25) (v := (1 : Int32)) hc rfl zki_1 rfl ?_
    refine g_istore_n (pc' := 26) (ls1 := [some (.ref 0), some (.int a1), some (.int (1 : Int32)), none]) hc rfl (zlt rfl) rfl rfl ?_
    refine zjn (G := (fun (g : (Nat → Int32) × (Nat → Int32) × Int32 × (Nat → Int32) × (Nat → Int32) × (Nat → Int32) × (Nat → Int32) × (Nat → Int32)) => match g with | (y25, y26, y27, y28, y29, y30, y31, y32) => ∀ z24 : Option Value, znl z24 = true → pm_ev C_X11_toThin (d + 1) (pm_call M cost zext d) cost (false, false) 108 1 6 Q 45 [some (.ref 0), some (.int a1), z24, none] [] 0 0 (zS 7 19 I [(14, none, y31), (17, none, y32), (52, none, y30), (53, some 0, fun _ => y27), (53, some 1, fun _ => o8), (53, some 3, fun _ => o4), (54, none, y25), (55, none, y28), (56, none, y26), (57, none, o7), (73, none, y29)] J [(53, some 2, fun _ => o10)]))) (zwp_bind h) ?_ (fun h => ?_)
    · rintro ⟨y25, y26, y27, y28, y29, y30, y31, y32⟩ h z24 hz24
      refine g_iconst (pc' := 46) (v := (1 : Int32)) hc rfl zki_1 rfl ?_
      refine g_aload_n (pc' := 47)  hc rfl rfl rfl rfl ?_
      refine z_getR (pc' := 50)  hc rfl rfl rfl sh_0 rfl rfl ?_
      refine z_getI (pc' := 53) (v := (I 7 3)) hc rfl rfl rfl sh_7 rfl rfl rfl ?_
      refine g_ishl (pc' := 54)  hc rfl rfl ?_
      refine g_iconst (pc' := 55) (v := (1 : Int32)) hc rfl zki_1 rfl ?_
      refine g_isub (pc' := 56)  hc rfl rfl ?_
      refine g_istore_n (pc' := 57) (ls1 := [some (.ref 0), some (.int a1), some (.int (((1 : Int32) <<< (((I 7 3)) &&& 31)) - (1 : Int32))), none]) hc rfl (zlt rfl) rfl rfl ?_
      refine g_iload_n (pc' := 58)  hc rfl rfl rfl ?_
      refine g_istore_n (pc' := 59) (ls1 := [some (.ref 0), some (.int a1), some (.int (((1 : Int32) <<< (((I 7 3)) &&& 31)) - (1 : Int32))), some (.int (((1 : Int32) <<< (((I 7 3)) &&& 31)) - (1 : Int32)))]) hc rfl (zlt rfl) rfl rfl ?_
      refine zjn (G := (fun (y35 : Int32) => ∀ z36 : Option Value, znl z36 = true → pm_ev C_X11_toThin (d + 1) (pm_call M cost zext d) cost (false, false) 108 1 6 Q 90 [some (.ref 0), some (.int a1), some (.int y35), z36] [] 0 0 (zS 7 19 I [(14, none, y31), (17, none, y32), (52, none, y30), (53, some 0, fun _ => y27), (53, some 1, fun _ => o8), (53, some 3, fun _ => o4), (54, none, y25), (55, none, y28), (56, none, y26), (57, none, o7), (73, none, y29)] J [(53, some 2, fun _ => o10)]))) (zwp_bind h) ?_ (fun h => ?_)
      · rintro y35 h z36 hz36
        refine g_iload_n (pc' := 91)  hc rfl rfl rfl ?_
        replace h := zws h
        exact g_ireturn hc rfl rfl rfl (fun _ => ⟨rfl, rfl⟩) h
      refine zitr_ev (G := (fun (g : Int32 × Int32) => match g with | (x33, x34) => pm_ev C_X11_toThin (d + 1) (pm_call M cost zext d) cost (false, false) 108 1 6 Q 59 [some (.ref 0), some (.int a1), some (.int x33), some (.int x34)] [] 0 0 (zS 7 19 I [(14, none, y31), (17, none, y32), (52, none, y30), (53, some 0, fun _ => y27), (53, some 1, fun _ => o8), (53, some 3, fun _ => o4), (54, none, y25), (55, none, y28), (56, none, y26), (57, none, o7), (73, none, y29)] J [(53, some 2, fun _ => o10)]))) ?_ zFU ((((1 : Int32) <<< (((I 7 3)) &&& 31)) - (1 : Int32)), (((1 : Int32) <<< (((I 7 3)) &&& 31)) - (1 : Int32))) h
      rintro ⟨x33, x34⟩ h
      refine g_iload_n (pc' := 60)  hc rfl rfl rfl ?_
      refine g_if_lt (pc' := 63) hc rfl rfl (fun hx => ?_) (fun hx => ?_)
      · replace h := zwp_t h hx
        replace h := zwp_r h
        exact h (some (.int x34)) rfl
      · replace h := zwp_f h hx
        refine g_iload_n (pc' := 64)  hc rfl rfl rfl ?_
        refine z_stat (as := [.int x34]) (r := []) hc rfl rfl rfl rfl zco_265 rfl rfl rfl ?_
        refine ok_J6_bitCount_0f7a4 (zdp hd rfl) (zwp_mono (zwp_bind h) ?_)
        rintro r37 h
        refine z_po (pc' := 67) (st' := [.int r37]) (v := (some (.int r37))) (L' := [(14, none, y31), (17, none, y32), (52, none, y30), (53, some 0, fun _ => y27), (53, some 1, fun _ => o8), (53, some 3, fun _ => o4), (54, none, y25), (55, none, y28), (56, none, y26), (57, none, o7), (73, none, y29)]) (K' := [(53, some 2, fun _ => o10)]) zco_265 rfl rfl rfl rfl rfl rfl rfl rfl ?_
        refine g_iload_n (pc' := 68)  hc rfl rfl rfl ?_
        refine z_stat (as := [.int x33]) (r := [.int r37]) hc rfl rfl rfl rfl zco_265 rfl rfl rfl ?_
        refine ok_J6_bitCount_0f7a4 (zdp hd rfl) (zwp_mono (zwp_bind h) ?_)
        rintro r38 h
        refine z_po (pc' := 71) (st' := [.int r38, .int r37]) (v := (some (.int r38))) (L' := [(14, none, y31), (17, none, y32), (52, none, y30), (53, some 0, fun _ => y27), (53, some 1, fun _ => o8), (53, some 3, fun _ => o4), (54, none, y25), (55, none, y28), (56, none, y26), (57, none, o7), (73, none, y29)]) (K' := [(53, some 2, fun _ => o10)]) zco_265 rfl rfl rfl rfl rfl rfl rfl rfl ?_
        refine g_icmp_gt (pc' := 74) hc rfl rfl (fun hx => ?_) (fun hx => ?_)
        · replace h := zwp_t h hx
          refine g_iinc (pc' := 87) (ls1 := [some (.ref 0), some (.int a1), some (.int x33), some (.int (x34 + (-1 : Int32)))]) hc rfl rfl zki_m1 (zlt rfl) rfl rfl ?_
          refine g_goto hc rfl ?_
          replace h := zwp_l h
          exact h
        · replace h := zwp_f h hx
          refine g_aload_n (pc' := 75)  hc rfl rfl rfl rfl ?_
          refine g_iload_n (pc' := 76)  hc rfl rfl rfl ?_
          refine z_virt (as := [.int x34]) (a := 0) (r := []) hc rfl rfl rfl rfl sh_0 rfl zco_142 rfl rfl rfl ?_
          refine ok_X11_noneMeets_0_p (zdp hd rfl) (zwp_mono (zwp_bind h) ?_)
          rintro r39 h
          refine z_po (pc' := 79) (st' := [.int r39]) (v := (some (.int r39))) (L' := [(14, none, y31), (17, none, y32), (52, none, y30), (53, some 0, fun _ => y27), (53, some 1, fun _ => o8), (53, some 3, fun _ => o4), (54, none, y25), (55, none, y28), (56, none, y26), (57, none, o7), (73, none, y29)]) (K' := [(53, some 2, fun _ => o10)]) zco_142 rfl rfl rfl rfl rfl rfl rfl rfl ?_
          refine g_if_eq (pc' := 82) hc rfl rfl (fun hx => ?_) (fun hx => ?_)
          · replace h := zwp_t h hx
            refine g_iinc (pc' := 87) (ls1 := [some (.ref 0), some (.int a1), some (.int x33), some (.int (x34 + (-1 : Int32)))]) hc rfl rfl zki_m1 (zlt rfl) rfl rfl ?_
            refine g_goto hc rfl ?_
            replace h := zwp_l h
            exact h
          · replace h := zwp_f h hx
            refine g_iload_n (pc' := 83)  hc rfl rfl rfl ?_
            refine g_istore_n (pc' := 84) (ls1 := [some (.ref 0), some (.int a1), some (.int x34), some (.int x34)]) hc rfl (zlt rfl) rfl rfl ?_
            refine g_iinc (pc' := 87) (ls1 := [some (.ref 0), some (.int a1), some (.int x34), some (.int (x34 + (-1 : Int32)))]) hc rfl rfl zki_m1 (zlt rfl) rfl rfl ?_
            refine g_goto hc rfl ?_
            replace h := zwp_l h
            exact h
    refine zitr_ev (G := (fun (g : Int32 × (Nat → Int32) × (Nat → Int32) × Int32 × (Nat → Int32) × (Nat → Int32) × (Nat → Int32) × (Nat → Int32) × (Nat → Int32)) => match g with | (x15, x16, x17, x18, x19, x20, x21, x22, x23) => pm_ev C_X11_toThin (d + 1) (pm_call M cost zext d) cost (false, false) 108 1 6 Q 26 [some (.ref 0), some (.int a1), some (.int x15), none] [] 0 0 (zS 7 19 I [(14, none, x22), (17, none, x23), (52, none, x21), (53, some 0, fun _ => x18), (53, some 1, fun _ => o8), (53, some 3, fun _ => o4), (54, none, x16), (55, none, x19), (56, none, x17), (57, none, o7), (73, none, x20)] J [(53, some 2, fun _ => o10)]))) ?_ zFU ((1 : Int32), o3, o5, o6, o9, o14, o11, o12, o13) h
    rintro ⟨x15, x16, x17, x18, x19, x20, x21, x22, x23⟩ h
    refine g_iload_n (pc' := 27)  hc rfl rfl rfl ?_
    refine g_iload_n (pc' := 28)  hc rfl rfl rfl ?_
    refine g_icmp_gt (pc' := 31) hc rfl rfl (fun hx => ?_) (fun hx => ?_)
    · replace h := zwp_t h hx
      replace h := zwp_r h
      exact h (some (.int x15)) rfl
    · replace h := zwp_f h hx
      refine g_aload_n (pc' := 32)  hc rfl rfl rfl rfl ?_
      refine z_virt (as := []) (a := 0) (r := []) hc rfl rfl rfl rfl sh_0 rfl zco_140 rfl rfl rfl ?_
      refine ok_X11_passFuture_0_p (zdp hd rfl) (zwp_mono (zwp_bind h) ?_)
      rintro ⟨o40, o41, o42, o43, o44, o45, o46⟩ h
      refine z_po (pc' := 35) (st' := []) (v := none) (L' := [(14, none, o45), (17, none, o46), (52, none, o44), (53, some 0, fun _ => o42), (53, some 1, fun _ => o8), (53, some 3, fun _ => o4), (54, none, o40), (55, none, o43), (56, none, o41), (57, none, o7), (73, none, x20)]) (K' := [(53, some 2, fun _ => o10)]) zco_140 rfl rfl rfl rfl rfl rfl rfl rfl ?_
      refine g_aload_n (pc' := 36)  hc rfl rfl rfl rfl ?_
      refine z_virt (as := []) (a := 0) (r := []) hc rfl rfl rfl rfl sh_0 rfl zco_141 rfl rfl rfl ?_
      refine ok_X11_addMeetings_0_p (zdp hd rfl) (zwp_mono (zwp_bind h) ?_)
      rintro o47 h
      refine z_po (pc' := 39) (st' := []) (v := none) (L' := [(14, none, o45), (17, none, o46), (52, none, o44), (53, some 0, fun _ => o42), (53, some 1, fun _ => o8), (53, some 3, fun _ => o4), (54, none, o40), (55, none, o43), (56, none, o41), (57, none, o7), (73, none, o47)]) (K' := [(53, some 2, fun _ => o10)]) zco_141 rfl rfl rfl rfl rfl rfl rfl rfl ?_
      refine g_iinc (pc' := 42) (ls1 := [some (.ref 0), some (.int a1), some (.int (x15 + (1 : Int32))), none]) hc rfl rfl zki_1 (zlt rfl) rfl rfl ?_
      refine g_goto hc rfl ?_
      replace h := zwp_l h
      exact h
  · replace h := zws h
    exact z_pox (L' := [(14, none, (I 14)), (17, none, (I 17)), (52, none, (I 52)), (53, some 0, fun _ => (I 53 0)), (53, some 1, fun _ => (I 53 1)), (53, some 3, fun _ => (I 53 3)), (54, none, (I 54)), (55, none, (I 55)), (56, none, (I 56)), (57, none, (I 57)), (73, none, (I 73))]) (K' := [(53, some 2, fun _ => (J 53 2))]) rfl rfl rfl rfl rfl rfl rfl h
set_option maxRecDepth 4000 in
theorem ok_L_toThin_0_107_p {I : pI} {J : pJ} {a1 : Int32} {Q : pQ} {d : Nat} (hd : 9 ≤ d) (h : zwp (f_L_toThin a1 1 (J 107) (I 54) (I 53 3) (I 56) (I 53 0) (I 57) (I 53 1) (I 55) (J 53 2) (I 73) (I 52) (I 32) (I 31 3) (I 34) (I 31 0) (I 35) (I 31 1) (I 33) (J 31 2) (I 7 12) (I 7 3) (I 15) (I 13 2) (I 14) (I 7 1) (I 18) (I 16 2) (I 17) (I 12) (I 7 9) (I 9) (I 10) (I 7 0)) (fun w => match w with | (r, o0, o1, o2, o3, o4, o5, o6, o7, o8, o9, o10, o11, o12) => Q (.inl (some (.int r))) (zS 7 19 I [(14, none, o11), (17, none, o12), (52, none, o10), (53, some 0, fun _ => o4), (53, some 1, fun _ => o6), (53, some 3, fun _ => o2), (54, none, o1), (55, none, o7), (56, none, o3), (57, none, o5), (73, none, o9)] J [(53, some 2, fun _ => o8), (107, none, o0)]))) : pm_call M cost zext d 287 [.ref 0, .int a1, .ref 107] (pm_st 108 (shp 7 19) I J) Q := by
  obtain ⟨d, rfl⟩ := zd1 hd rfl
  have hc := pm_call_m (M := M) (cost := cost) zext_m d
  refine z_in (L := [(14, none, (I 14)), (17, none, (I 17)), (52, none, (I 52)), (53, some 0, fun _ => (I 53 0)), (53, some 1, fun _ => (I 53 1)), (53, some 3, fun _ => (I 53 3)), (54, none, (I 54)), (55, none, (I 55)), (56, none, (I 56)), (57, none, (I 57)), (73, none, (I 73))]) (K := [(53, some 2, fun _ => (J 53 2)), (107, none, (J 107))]) (ls := [some (.ref 0), some (.int a1), some (.ref 107), none]) zmt_287 zco_287 rfl rfl (zid_a (zid_a (zid_a (zid_s (zid_s (zid_s (zid_a (zid_a (zid_a (zid_a (zid_a zid_n))))))))))) (zid_s (zid_a zid_n)) ?_
  delta f_L_toThin at h
  refine g_aload_n (pc' := 1)  hc rfl rfl rfl rfl ?_
  refine g_iconst (pc' := 2) (v := (0 : Int32)) hc rfl zki_0 rfl ?_
  refine g_aload_n (pc' := 3)  hc rfl rfl rfl rfl ?_
  refine g_iload_n (pc' := 4)  hc rfl rfl rfl ?_
  refine z_virt (as := [.int a1]) (a := 0) (r := [.int (0 : Int32), .ref 107]) hc rfl rfl rfl rfl sh_0 rfl zco_117 rfl rfl rfl ?_
  refine ok_X11_toThin_0_p (zdp hd rfl) (zwp_mono (zwp_bind h) ?_)
  rintro ⟨(r13 | E14), o1, o2, o3, o4, o5, o6, o7, o8, o9, o10, o11, o12⟩ h
  · refine z_po (pc' := 7) (st' := [.int r13, .int (0 : Int32), .ref 107]) (v := (some (.int r13))) (L' := [(14, none, o11), (17, none, o12), (52, none, o10), (53, some 0, fun _ => o4), (53, some 1, fun _ => o6), (53, some 3, fun _ => o2), (54, none, o1), (55, none, o7), (56, none, o3), (57, none, o5), (73, none, o9)]) (K' := [(53, some 2, fun _ => o8), (107, none, (J 107))]) zco_117 rfl rfl rfl rfl rfl rfl rfl rfl ?_
    refine g_i2l (pc' := 8)  hc rfl rfl ?_
    have hb := (zwp_bnd h).1
    replace h := (zwp_bnd h).2
    refine z_lastore (pc' := 9) (g := (J 107)) (K' := [(53, some 2, fun _ => o8), (107, none, (vp_updL ((J 107)) (0 : Int32).toNatClampNeg r13.toInt64))]) hc rfl rfl sh_107 hb rfl rfl rfl rfl ?_
    refine g_goto hc rfl ?_
    refine g_iconst (pc' := 16) (v := (0 : Int32)) hc rfl zki_0 rfl ?_
    replace h := zws h
    exact g_ireturn hc rfl rfl rfl (fun _ => ⟨rfl, rfl⟩) h
  · by_cases hE : E14 = x_I
    · replace h := zwp_t h hE
      replace h := zws h
      exact z_poh (L' := [(14, none, o11), (17, none, o12), (52, none, o10), (53, some 0, fun _ => o4), (53, some 1, fun _ => o6), (53, some 3, fun _ => o2), (54, none, o1), (55, none, o7), (56, none, o3), (57, none, o5), (73, none, o9)]) (K' := [(53, some 2, fun _ => o8), (107, none, (J 107))]) (zhd1 (e := 9) (pc := 4) rfl hE) rfl rfl rfl rfl rfl rfl rfl rfl h
    replace h := zwp_f h hE
    exact (zwn h).elim
set_option maxRecDepth 4000 in
theorem ok_X7_measureAll_61_7_31_58 {p q : Nat} {I : pI} {J : pJ} {Q : pQ} {d : Nat} (hd : 4 ≤ d) (h : zwp (f_X7_measureAll (I 62) (I 7 3) (I 7 1) (I 11) (I 7 7) (I 7 0) (I 32) (J 31 2) (I 59) (I 60)) (fun w => match w with | (o0, o1, o2) => Q (.inl none) (zS p q I [(59, none, o1), (60, none, o2), (62, none, o0)] J []))) : pm_call M cost zext d 62 [.ref 61, .ref 7, .ref 31, .ref 58] (pm_st 108 (shp p q) I J) Q := by
  obtain ⟨d, rfl⟩ := zd1 hd rfl
  have hc := pm_call_m (M := M) (cost := cost) zext_m d
  refine z_in (L := [(59, none, (I 59)), (60, none, (I 60)), (62, none, (I 62))]) (K := []) (ls := [some (.ref 61), some (.ref 7), some (.ref 31), some (.ref 58), none, none]) zmt_62 zco_62 rfl rfl (zid_a (zid_a (zid_a zid_n))) zid_n ?_
  delta f_X7_measureAll at h
  refine g_iconst (pc' := 1) (v := (0 : Int32)) hc rfl zki_0 rfl ?_
  refine g_istore (pc' := 3) (ls1 := [some (.ref 61), some (.ref 7), some (.ref 31), some (.ref 58), some (.int (0 : Int32)), none]) hc rfl (zlt rfl) rfl rfl ?_
  refine zjn (G := (fun (g : (Nat → Int32) × (Nat → Int32) × (Nat → Int32)) => match g with | (y8, y9, y10) => ∀ z6 : Option Value, znl z6 = true → ∀ z7 : Option Value, znl z7 = true → pm_ev C_X7_measureAll (d + 1) (pm_call M cost zext d) cost (false, false) 108 0 0 Q 74 [some (.ref 61), some (.ref 7), some (.ref 31), some (.ref 58), z6, z7] [] 0 0 (zS p q I [(59, none, y9), (60, none, y10), (62, none, y8)] J []))) (zwp_bind h) ?_ (fun h => ?_)
  · rintro ⟨y8, y9, y10⟩ h z6 hz6 z7 hz7
    replace h := zws h
    exact g_return hc rfl rfl (fun _ => ⟨rfl, rfl⟩) h
  refine zitr_ev (G := (fun (g : Int32 × (Nat → Int32) × (Nat → Int32) × (Nat → Int32)) => match g with | (x1, x3, x4, x5) => ∀ z2 : Option Value, znl z2 = true → pm_ev C_X7_measureAll (d + 1) (pm_call M cost zext d) cost (false, false) 108 0 0 Q 3 [some (.ref 61), some (.ref 7), some (.ref 31), some (.ref 58), some (.int x1), z2] [] 0 0 (zS p q I [(59, none, x4), (60, none, x5), (62, none, x3)] J []))) ?_ zFU ((0 : Int32), (I 62), (I 59), (I 60)) h none rfl
  rintro ⟨x1, x3, x4, x5⟩ h z2 hz2
  refine g_iload (pc' := 5)  hc rfl rfl rfl ?_
  refine g_aload_n (pc' := 6)  hc rfl rfl rfl rfl ?_
  refine z_getI (pc' := 9) (v := (I 7 7)) hc rfl rfl rfl sh_7 rfl rfl rfl ?_
  refine g_icmp_ge (pc' := 12) hc rfl rfl (fun hx => ?_) (fun hx => ?_)
  · replace h := zwp_t h hx
    replace h := zwp_r h
    exact h (some (.int x1)) rfl z2 hz2
  · replace h := zwp_f h hx
    refine g_aload_n (pc' := 13)  hc rfl rfl rfl rfl ?_
    refine g_aload_n (pc' := 14)  hc rfl rfl rfl rfl ?_
    refine g_aload_n (pc' := 15)  hc rfl rfl rfl rfl ?_
    refine g_aload_n (pc' := 16)  hc rfl rfl rfl rfl ?_
    refine z_getR (pc' := 19)  hc rfl rfl rfl sh_7 rfl rfl ?_
    refine g_iload (pc' := 21)  hc rfl rfl rfl ?_
    have hb := (zwp_bnd h).1
    replace h := (zwp_bnd h).2
    refine z_iaload (pc' := 22) (v := (((I 11)) x1.toNatClampNeg)) hc rfl rfl sh_11 hb rfl rfl ?_
    refine z_virt (as := [.ref 7, .ref 31, .int (((I 11)) x1.toNatClampNeg)]) (a := 58) (r := []) hc rfl rfl rfl rfl sh_58 rfl zco_92 rfl rfl rfl ?_
    refine ok_X10_measure_58_7_31 (zdp hd rfl) (zwp_mono (zwp_bind h) ?_)
    rintro ⟨o11, o12⟩ h
    refine z_po (pc' := 25) (st' := []) (v := none) (L' := [(59, none, o11), (60, none, o12), (62, none, x3)]) (K' := []) zco_92 rfl rfl rfl rfl rfl rfl rfl rfl ?_
    refine g_iconst (pc' := 26) (v := (0 : Int32)) hc rfl zki_0 rfl ?_
    refine g_istore (pc' := 28) (ls1 := [some (.ref 61), some (.ref 7), some (.ref 31), some (.ref 58), some (.int x1), some (.int (0 : Int32))]) hc rfl (zlt rfl) rfl rfl ?_
    refine zjn (G := (fun (y16 : (Nat → Int32)) => ∀ z15 : Option Value, znl z15 = true → pm_ev C_X7_measureAll (d + 1) (pm_call M cost zext d) cost (false, false) 108 0 0 Q 68 [some (.ref 61), some (.ref 7), some (.ref 31), some (.ref 58), some (.int x1), z15] [] 0 0 (zS p q I [(59, none, o11), (60, none, o12), (62, none, y16)] J []))) (zwp_bind h) ?_ (fun h => ?_)
    · rintro y16 h z15 hz15
      refine g_iinc (pc' := 71) (ls1 := [some (.ref 61), some (.ref 7), some (.ref 31), some (.ref 58), some (.int (x1 + (1 : Int32))), z15]) hc rfl rfl zki_1 (zlt rfl) rfl rfl ?_
      refine g_goto hc rfl ?_
      replace h := zwp_l h
      exact h z15 hz15
    refine zitr_ev (G := (fun (g : Int32 × (Nat → Int32)) => match g with | (x13, x14) => pm_ev C_X7_measureAll (d + 1) (pm_call M cost zext d) cost (false, false) 108 0 0 Q 28 [some (.ref 61), some (.ref 7), some (.ref 31), some (.ref 58), some (.int x1), some (.int x13)] [] 0 0 (zS p q I [(59, none, o11), (60, none, o12), (62, none, x14)] J []))) ?_ zFU ((0 : Int32), x3) h
    rintro ⟨x13, x14⟩ h
    refine g_iload (pc' := 30)  hc rfl rfl rfl ?_
    refine g_aload_n (pc' := 31)  hc rfl rfl rfl rfl ?_
    refine z_getI (pc' := 34) (v := (I 7 3)) hc rfl rfl rfl sh_7 rfl rfl rfl ?_
    refine g_icmp_ge (pc' := 37) hc rfl rfl (fun hx => ?_) (fun hx => ?_)
    · replace h := zwp_t h hx
      replace h := zwp_r h
      exact h (some (.int x13)) rfl
    · replace h := zwp_f h hx
      refine g_aload_n (pc' := 38)  hc rfl rfl rfl rfl ?_
      refine z_getR (pc' := 41)  hc rfl rfl rfl sh_61 rfl rfl ?_
      refine g_iload (pc' := 43)  hc rfl rfl rfl ?_
      refine g_bipush (pc' := 45) (v := (8 : Int32)) hc rfl zkb_8 rfl ?_
      refine g_imul (pc' := 46)  hc rfl rfl ?_
      refine g_iload (pc' := 48)  hc rfl rfl rfl ?_
      refine g_iadd (pc' := 49)  hc rfl rfl ?_
      refine g_aload_n (pc' := 50)  hc rfl rfl rfl rfl ?_
      refine z_getR (pc' := 53)  hc rfl rfl rfl sh_58 rfl rfl ?_
      refine g_aload_n (pc' := 54)  hc rfl rfl rfl rfl ?_
      refine z_getR (pc' := 57)  hc rfl rfl rfl sh_31 rfl rfl ?_
      refine g_iload (pc' := 59)  hc rfl rfl rfl ?_
      have hb := (zwp_bnd h).1
      replace h := (zwp_bnd h).2
      refine z_iaload (pc' := 60) (v := (((I 32)) x13.toNatClampNeg)) hc rfl rfl sh_32 hb rfl rfl ?_
      have hb := (zwp_bnd h).1
      replace h := (zwp_bnd h).2
      refine z_iaload (pc' := 61) (v := (o11 (((I 32)) x13.toNatClampNeg).toNatClampNeg)) hc rfl rfl sh_59 hb rfl rfl ?_
      have hb := (zwp_bnd h).1
      replace h := (zwp_bnd h).2
      refine z_iastore (pc' := 62) (g := x14) (L' := [(59, none, o11), (60, none, o12), (62, none, (upd x14 ((x13 * (8 : Int32)) + x1).toNatClampNeg (o11 (((I 32)) x13.toNatClampNeg).toNatClampNeg)))]) hc rfl rfl sh_62 hb rfl rfl rfl rfl ?_
      refine g_iinc (pc' := 65) (ls1 := [some (.ref 61), some (.ref 7), some (.ref 31), some (.ref 58), some (.int x1), some (.int (x13 + (1 : Int32)))]) hc rfl rfl zki_1 (zlt rfl) rfl rfl ?_
      refine g_goto hc rfl ?_
      replace h := zwp_l h
      exact h
set_option maxRecDepth 4000 in
theorem ok_J7_fill_53178_63 {p q : Nat} {I : pI} {J : pJ} {a1 : Int32} {Q : pQ} {d : Nat} (hd : 1 ≤ d) (h : zwp (f_J7_fill_53178 a1 2304 (I 63)) (fun o0 => Q (.inl none) (zS p q I [(63, none, o0)] J []))) : pm_call M cost zext d 268 [.ref 63, .int a1] (pm_st 108 (shp p q) I J) Q := by
  obtain ⟨d, rfl⟩ := zd1 hd rfl
  have hc := pm_call_m (M := M) (cost := cost) zext_m d
  refine z_in (L := [(63, none, (I 63))]) (K := []) (ls := [some (.ref 63), some (.int a1), none, none]) zmt_268 zco_268 rfl rfl (zid_a zid_n) zid_n ?_
  delta f_J7_fill_53178 at h
  refine g_iconst (pc' := 1) (v := (0 : Int32)) hc rfl zki_0 rfl ?_
  refine g_istore_n (pc' := 2) (ls1 := [some (.ref 63), some (.int a1), some (.int (0 : Int32)), none]) hc rfl (zlt rfl) rfl rfl ?_
  refine g_aload_n (pc' := 3)  hc rfl rfl rfl rfl ?_
  refine z_alen (pc' := 4) (v := (Int32.ofNat 2304)) hc rfl rfl sh_63 ⟨by decide, by decide⟩ rfl rfl ?_
  refine g_istore_n (pc' := 5) (ls1 := [some (.ref 63), some (.int a1), some (.int (0 : Int32)), some (.int (Int32.ofNat 2304))]) hc rfl (zlt rfl) rfl rfl ?_
  refine zjn (G := (fun (y4 : (Nat → Int32)) => ∀ z3 : Option Value, znl z3 = true → pm_ev C_J7_fill_53178 (d + 1) (pm_call M cost zext d) cost (false, false) 108 0 0 Q 20 [some (.ref 63), some (.int a1), z3, some (.int (Int32.ofNat 2304))] [] 0 0 (zS p q I [(63, none, y4)] J []))) (zwp_bind h) ?_ (fun h => ?_)
  · rintro y4 h z3 hz3
    replace h := zws h
    exact g_return hc rfl rfl (fun _ => ⟨rfl, rfl⟩) h
  refine zitr_ev (G := (fun (g : Int32 × (Nat → Int32)) => match g with | (x1, x2) => pm_ev C_J7_fill_53178 (d + 1) (pm_call M cost zext d) cost (false, false) 108 0 0 Q 5 [some (.ref 63), some (.int a1), some (.int x1), some (.int (Int32.ofNat 2304))] [] 0 0 (zS p q I [(63, none, x2)] J []))) ?_ zFU ((0 : Int32), (I 63)) h
  rintro ⟨x1, x2⟩ h
  refine g_iload_n (pc' := 6)  hc rfl rfl rfl ?_
  refine g_iload_n (pc' := 7)  hc rfl rfl rfl ?_
  refine g_icmp_ge (pc' := 10) hc rfl rfl (fun hx => ?_) (fun hx => ?_)
  · replace h := zwp_t h hx
    replace h := zwp_r h
    exact h (some (.int x1)) rfl
  · replace h := zwp_f h hx
    refine g_aload_n (pc' := 11)  hc rfl rfl rfl rfl ?_
    refine g_iload_n (pc' := 12)  hc rfl rfl rfl ?_
    refine g_iload_n (pc' := 13)  hc rfl rfl rfl ?_
    have hb := (zwp_bnd h).1
    replace h := (zwp_bnd h).2
    refine z_iastore (pc' := 14) (g := x2) (L' := [(63, none, (upd x2 x1.toNatClampNeg a1))]) hc rfl rfl sh_63 hb rfl rfl rfl rfl ?_
    refine g_iinc (pc' := 17) (ls1 := [some (.ref 63), some (.int a1), some (.int (x1 + (1 : Int32))), some (.int (Int32.ofNat 2304))]) hc rfl rfl zki_1 (zlt rfl) rfl rfl ?_
    refine g_goto hc rfl ?_
    replace h := zwp_l h
    exact h
set_option maxRecDepth 4000 in
theorem ok_X7_worthAt_61 {p q : Nat} {I : pI} {J : pJ} {a1 : Int32} {a2 : Int32} {a3 : Int32} {Q : pQ} {d : Nat} (hd : 1 ≤ d) (h : zwp (f_X7_worthAt a1 a2 a3 (I 63) (I 62)) (fun r => Q (.inl (some (.int r))) (zS p q I [] J []))) : pm_call M cost zext d 64 [.ref 61, .int a1, .int a2, .int a3] (pm_st 108 (shp p q) I J) Q := by
  obtain ⟨d, rfl⟩ := zd1 hd rfl
  have hc := pm_call_m (M := M) (cost := cost) zext_m d
  refine z_in (L := []) (K := []) (ls := [some (.ref 61), some (.int a1), some (.int a2), some (.int a3), none]) zmt_64 zco_64 rfl rfl zid_n zid_n ?_
  delta f_X7_worthAt at h
  refine g_aload_n (pc' := 1)  hc rfl rfl rfl rfl ?_
  refine z_getR (pc' := 4)  hc rfl rfl rfl sh_61 rfl rfl ?_
  refine g_iload_n (pc' := 5)  hc rfl rfl rfl ?_
  refine g_bipush (pc' := 7) (v := (8 : Int32)) hc rfl zkb_8 rfl ?_
  refine g_imul (pc' := 8)  hc rfl rfl ?_
  refine g_iload_n (pc' := 9)  hc rfl rfl rfl ?_
  refine g_iadd (pc' := 10)  hc rfl rfl ?_
  have hb := (zwp_bnd h).1
  replace h := (zwp_bnd h).2
  refine z_iaload (pc' := 11) (v := (((I 62)) ((a1 * (8 : Int32)) + a3).toNatClampNeg)) hc rfl rfl sh_62 hb rfl rfl ?_
  refine g_istore (pc' := 13) (ls1 := [some (.ref 61), some (.int a1), some (.int a2), some (.int a3), some (.int (((I 62)) ((a1 * (8 : Int32)) + a3).toNatClampNeg))]) hc rfl (zlt rfl) rfl rfl ?_
  refine g_iload_n (pc' := 14)  hc rfl rfl rfl ?_
  refine g_iload_n (pc' := 15)  hc rfl rfl rfl ?_
  refine g_ishr (pc' := 16)  hc rfl rfl ?_
  refine g_iconst (pc' := 17) (v := (1 : Int32)) hc rfl zki_1 rfl ?_
  refine g_iand (pc' := 18)  hc rfl rfl ?_
  refine g_if_ne (pc' := 21) hc rfl rfl (fun hx => ?_) (fun hx => ?_)
  · replace h := zwp_f h hx
    refine g_iconst (pc' := 28) (v := (-1 : Int32)) hc rfl zki_m1 rfl ?_
    replace h := zws h
    exact g_ireturn hc rfl rfl rfl (fun _ => ⟨rfl, rfl⟩) h
  · replace h := zwp_t h hx
    refine g_iload (pc' := 23)  hc rfl rfl rfl ?_
    refine g_iconst (pc' := 24) (v := (-1 : Int32)) hc rfl zki_m1 rfl ?_
    refine g_icmp_ne (pc' := 27) hc rfl rfl (fun hx => ?_) (fun hx => ?_)
    · replace h := zwp_f h hx
      refine g_sipush (pc' := 32) (v := (1000 : Int32)) hc rfl zks_1000 rfl ?_
      refine g_iload (pc' := 34)  hc rfl rfl rfl ?_
      refine g_isub (pc' := 35)  hc rfl rfl ?_
      refine g_aload_n (pc' := 36)  hc rfl rfl rfl rfl ?_
      refine z_getR (pc' := 39)  hc rfl rfl rfl sh_61 rfl rfl ?_
      refine g_iload_n (pc' := 40)  hc rfl rfl rfl ?_
      refine g_iconst (pc' := 41) (v := (1 : Int32)) hc rfl zki_1 rfl ?_
      refine g_iadd (pc' := 42)  hc rfl rfl ?_
      refine g_sipush (pc' := 45) (v := (256 : Int32)) hc rfl zks_256 rfl ?_
      refine g_imul (pc' := 46)  hc rfl rfl ?_
      refine g_iload_n (pc' := 47)  hc rfl rfl rfl ?_
      refine g_iconst (pc' := 48) (v := (1 : Int32)) hc rfl zki_1 rfl ?_
      refine g_iload_n (pc' := 49)  hc rfl rfl rfl ?_
      refine g_ishl (pc' := 50)  hc rfl rfl ?_
      refine g_ior (pc' := 51)  hc rfl rfl ?_
      refine g_iadd (pc' := 52)  hc rfl rfl ?_
      have hb := (zwp_bnd h).1
      replace h := (zwp_bnd h).2
      refine z_iaload (pc' := 53) (v := (((I 63)) (((a1 + (1 : Int32)) * (256 : Int32)) + (a2 ||| ((1 : Int32) <<< (a3 &&& 31)))).toNatClampNeg)) hc rfl rfl sh_63 hb rfl rfl ?_
      refine g_iadd (pc' := 54)  hc rfl rfl ?_
      replace h := zws h
      exact g_ireturn hc rfl rfl rfl (fun _ => ⟨rfl, rfl⟩) h
    · replace h := zwp_t h hx
      refine g_iconst (pc' := 28) (v := (-1 : Int32)) hc rfl zki_m1 rfl ?_
      replace h := zws h
      exact g_ireturn hc rfl rfl rfl (fun _ => ⟨rfl, rfl⟩) h
set_option maxRecDepth 4000 in
theorem ok_X7_bestFrom_61_7 {p q : Nat} {I : pI} {J : pJ} {a2 : Int32} {a3 : Int32} {Q : pQ} {d : Nat} (hd : 2 ≤ d) (h : zwp (f_X7_bestFrom a2 a3 (I 63) (I 62) (I 7 7)) (fun r => Q (.inl (some (.int r))) (zS p q I [] J []))) : pm_call M cost zext d 63 [.ref 61, .ref 7, .int a2, .int a3] (pm_st 108 (shp p q) I J) Q := by
  obtain ⟨d, rfl⟩ := zd1 hd rfl
  have hc := pm_call_m (M := M) (cost := cost) zext_m d
  refine z_in (L := []) (K := []) (ls := [some (.ref 61), some (.ref 7), some (.int a2), some (.int a3), none, none]) zmt_63 zco_63 rfl rfl zid_n zid_n ?_
  delta f_X7_bestFrom at h
  refine g_aload_n (pc' := 1)  hc rfl rfl rfl rfl ?_
  refine z_getR (pc' := 4)  hc rfl rfl rfl sh_61 rfl rfl ?_
  refine g_iload_n (pc' := 5)  hc rfl rfl rfl ?_
  refine g_iconst (pc' := 6) (v := (1 : Int32)) hc rfl zki_1 rfl ?_
  refine g_iadd (pc' := 7)  hc rfl rfl ?_
  refine g_sipush (pc' := 10) (v := (256 : Int32)) hc rfl zks_256 rfl ?_
  refine g_imul (pc' := 11)  hc rfl rfl ?_
  refine g_iload_n (pc' := 12)  hc rfl rfl rfl ?_
  refine g_iadd (pc' := 13)  hc rfl rfl ?_
  have hb := (zwp_bnd h).1
  replace h := (zwp_bnd h).2
  refine z_iaload (pc' := 14) (v := (((I 63)) (((a2 + (1 : Int32)) * (256 : Int32)) + a3).toNatClampNeg)) hc rfl rfl sh_63 hb rfl rfl ?_
  refine g_istore (pc' := 16) (ls1 := [some (.ref 61), some (.ref 7), some (.int a2), some (.int a3), some (.int (((I 63)) (((a2 + (1 : Int32)) * (256 : Int32)) + a3).toNatClampNeg)), none]) hc rfl (zlt rfl) rfl rfl ?_
  refine g_iconst (pc' := 17) (v := (0 : Int32)) hc rfl zki_0 rfl ?_
  refine g_istore (pc' := 19) (ls1 := [some (.ref 61), some (.ref 7), some (.int a2), some (.int a3), some (.int (((I 63)) (((a2 + (1 : Int32)) * (256 : Int32)) + a3).toNatClampNeg)), some (.int (0 : Int32))]) hc rfl (zlt rfl) rfl rfl ?_
  refine zjn (G := (fun (y3 : Int32) => ∀ z4 : Option Value, znl z4 = true → pm_ev C_X7_bestFrom (d + 1) (pm_call M cost zext d) cost (false, false) 108 0 0 Q 49 [some (.ref 61), some (.ref 7), some (.int a2), some (.int a3), some (.int y3), z4] [] 0 0 (zS p q I [] J []))) (zwp_bind h) ?_ (fun h => ?_)
  · rintro y3 h z4 hz4
    refine g_iload (pc' := 51)  hc rfl rfl rfl ?_
    replace h := zws h
    exact g_ireturn hc rfl rfl rfl (fun _ => ⟨rfl, rfl⟩) h
  refine zitr_ev (G := (fun (g : Int32 × Int32) => match g with | (x1, x2) => pm_ev C_X7_bestFrom (d + 1) (pm_call M cost zext d) cost (false, false) 108 0 0 Q 19 [some (.ref 61), some (.ref 7), some (.int a2), some (.int a3), some (.int x1), some (.int x2)] [] 0 0 (zS p q I [] J []))) ?_ zFU ((((I 63)) (((a2 + (1 : Int32)) * (256 : Int32)) + a3).toNatClampNeg), (0 : Int32)) h
  rintro ⟨x1, x2⟩ h
  refine g_iload (pc' := 21)  hc rfl rfl rfl ?_
  refine g_aload_n (pc' := 22)  hc rfl rfl rfl rfl ?_
  refine z_getI (pc' := 25) (v := (I 7 7)) hc rfl rfl rfl sh_7 rfl rfl rfl ?_
  refine g_icmp_ge (pc' := 28) hc rfl rfl (fun hx => ?_) (fun hx => ?_)
  · replace h := zwp_t h hx
    replace h := zwp_r h
    exact h (some (.int x2)) rfl
  · replace h := zwp_f h hx
    refine g_iload (pc' := 30)  hc rfl rfl rfl ?_
    refine g_aload_n (pc' := 31)  hc rfl rfl rfl rfl ?_
    refine g_iload_n (pc' := 32)  hc rfl rfl rfl ?_
    refine g_iload_n (pc' := 33)  hc rfl rfl rfl ?_
    refine g_iload (pc' := 35)  hc rfl rfl rfl ?_
    refine z_virt (as := [.int a2, .int a3, .int x2]) (a := 61) (r := [.int x1]) hc rfl rfl rfl rfl sh_61 rfl zco_64 rfl rfl rfl ?_
    refine ok_X7_worthAt_61 (zdp hd rfl) (zwp_mono (zwp_bind h) ?_)
    rintro r5 h
    refine z_po (pc' := 38) (st' := [.int r5, .int x1]) (v := (some (.int r5))) (L' := []) (K' := []) zco_64 rfl rfl rfl rfl rfl rfl rfl rfl ?_
    refine z_max (pc' := 41)  hc rfl rfl (zdq hd rfl) rfl rfl ?_
    refine g_istore (pc' := 43) (ls1 := [some (.ref 61), some (.ref 7), some (.int a2), some (.int a3), some (.int (if x1 < r5 then r5 else x1)), some (.int x2)]) hc rfl (zlt rfl) rfl rfl ?_
    refine g_iinc (pc' := 46) (ls1 := [some (.ref 61), some (.ref 7), some (.int a2), some (.int a3), some (.int (if x1 < r5 then r5 else x1)), some (.int (x2 + (1 : Int32)))]) hc rfl rfl zki_1 (zlt rfl) rfl rfl ?_
    refine g_goto hc rfl ?_
    replace h := zwp_l h
    exact h
set_option maxRecDepth 4000 in
theorem ok_X7_choose_61_7 {p q : Nat} {I : pI} {J : pJ} {Q : pQ} {d : Nat} (hd : 2 ≤ d) (h : zwp (f_X7_choose (I 63) (I 61 4) (I 62) (I 61 3) (I 7 3) (I 7 7) (I 64)) (fun w => match w with | (o0, o1, o2) => Q (.inl none) (zS p q I [(61, some 3, fun _ => o1), (61, some 4, fun _ => o0), (64, none, o2)] J []))) : pm_call M cost zext d 65 [.ref 61, .ref 7] (pm_st 108 (shp p q) I J) Q := by
  obtain ⟨d, rfl⟩ := zd1 hd rfl
  have hc := pm_call_m (M := M) (cost := cost) zext_m d
  refine z_in (L := [(61, some 3, fun _ => (I 61 3)), (61, some 4, fun _ => (I 61 4)), (64, none, (I 64))]) (K := []) (ls := [some (.ref 61), some (.ref 7), none, none, none]) zmt_65 zco_65 rfl rfl (zid_s (zid_s (zid_a zid_n))) zid_n ?_
  delta f_X7_choose at h
  refine g_aload_n (pc' := 1)  hc rfl rfl rfl rfl ?_
  refine g_iconst (pc' := 2) (v := (0 : Int32)) hc rfl zki_0 rfl ?_
  refine z_putI (pc' := 5) (L' := [(61, some 3, fun _ => (0 : Int32)), (61, some 4, fun _ => (I 61 4)), (64, none, (I 64))]) hc rfl rfl rfl sh_61 rfl zft_7_3 rfl (fun h => Bool.noConfusion h) rfl rfl rfl ?_
  refine g_aload_n (pc' := 6)  hc rfl rfl rfl rfl ?_
  refine g_iconst (pc' := 7) (v := (0 : Int32)) hc rfl zki_0 rfl ?_
  refine z_putI (pc' := 10) (L' := [(61, some 3, fun _ => (0 : Int32)), (61, some 4, fun _ => (0 : Int32)), (64, none, (I 64))]) hc rfl rfl rfl sh_61 rfl zft_7_4 rfl (fun h => Bool.noConfusion h) rfl rfl rfl ?_
  refine g_iconst (pc' := 11) (v := (0 : Int32)) hc rfl zki_0 rfl ?_
  refine g_istore_n (pc' := 12) (ls1 := [some (.ref 61), some (.ref 7), some (.int (0 : Int32)), none, none]) hc rfl (zlt rfl) rfl rfl ?_
  refine g_iconst (pc' := 13) (v := (0 : Int32)) hc rfl zki_0 rfl ?_
  refine g_istore_n (pc' := 14) (ls1 := [some (.ref 61), some (.ref 7), some (.int (0 : Int32)), some (.int (0 : Int32)), none]) hc rfl (zlt rfl) rfl rfl ?_
  refine zjn (G := (fun (g : Int32 × Int32 × (Nat → Int32)) => match g with | (y10, y11, y12) => ∀ z7 : Option Value, znl z7 = true → ∀ z8 : Option Value, znl z8 = true → ∀ z9 : Option Value, znl z9 = true → pm_ev C_X7_choose (d + 1) (pm_call M cost zext d) cost (false, false) 108 0 0 Q 150 [some (.ref 61), some (.ref 7), z7, z8, z9] [] 0 0 (zS p q I [(61, some 3, fun _ => y11), (61, some 4, fun _ => y10), (64, none, y12)] J []))) (zwp_bind h) ?_ (fun h => ?_)
  · rintro ⟨y10, y11, y12⟩ h z7 hz7 z8 hz8 z9 hz9
    replace h := zws h
    exact g_return hc rfl rfl (fun _ => ⟨rfl, rfl⟩) h
  refine zitr_ev (G := (fun (g : Int32 × Int32 × Int32 × Int32 × (Nat → Int32)) => match g with | (x1, x2, x4, x5, x6) => ∀ z3 : Option Value, znl z3 = true → pm_ev C_X7_choose (d + 1) (pm_call M cost zext d) cost (false, false) 108 0 0 Q 14 [some (.ref 61), some (.ref 7), some (.int x1), some (.int x2), z3] [] 0 0 (zS p q I [(61, some 3, fun _ => x5), (61, some 4, fun _ => x4), (64, none, x6)] J []))) ?_ zFU ((0 : Int32), (0 : Int32), (0 : Int32), (0 : Int32), (I 64)) h none rfl
  rintro ⟨x1, x2, x4, x5, x6⟩ h z3 hz3
  refine g_iload_n (pc' := 15)  hc rfl rfl rfl ?_
  refine g_aload_n (pc' := 16)  hc rfl rfl rfl rfl ?_
  refine z_getI (pc' := 19) (v := (I 7 3)) hc rfl rfl rfl sh_7 rfl rfl rfl ?_
  refine g_icmp_ge (pc' := 22) hc rfl rfl (fun hx => ?_) (fun hx => ?_)
  · replace h := zwp_t h hx
    replace h := zwp_r h
    exact h (some (.int x1)) rfl (some (.int x2)) rfl z3 hz3
  · replace h := zwp_f h hx
    refine g_aload_n (pc' := 23)  hc rfl rfl rfl rfl ?_
    refine z_getR (pc' := 26)  hc rfl rfl rfl sh_61 rfl rfl ?_
    refine g_iload_n (pc' := 27)  hc rfl rfl rfl ?_
    refine g_iconst (pc' := 28) (v := (-1 : Int32)) hc rfl zki_m1 rfl ?_
    have hb := (zwp_bnd h).1
    replace h := (zwp_bnd h).2
    refine z_iastore (pc' := 29) (g := x6) (L' := [(61, some 3, fun _ => x5), (61, some 4, fun _ => x4), (64, none, (upd x6 x2.toNatClampNeg (-1 : Int32)))]) hc rfl rfl sh_64 hb rfl rfl rfl rfl ?_
    refine g_iconst (pc' := 30) (v := (0 : Int32)) hc rfl zki_0 rfl ?_
    refine g_istore (pc' := 32) (ls1 := [some (.ref 61), some (.ref 7), some (.int x1), some (.int x2), some (.int (0 : Int32))]) hc rfl (zlt rfl) rfl rfl ?_
    refine zjn (G := (fun (g : Int32 × Int32 × (Nat → Int32)) => match g with | (y18, y19, y20) => ∀ z17 : Option Value, znl z17 = true → pm_ev C_X7_choose (d + 1) (pm_call M cost zext d) cost (false, false) 108 0 0 Q 119 [some (.ref 61), some (.ref 7), some (.int x1), some (.int x2), z17] [] 0 0 (zS p q I [(61, some 3, fun _ => y19), (61, some 4, fun _ => y18), (64, none, y20)] J []))) (zwp_bind h) ?_ (fun h => ?_)
    · rintro ⟨y18, y19, y20⟩ h z17 hz17
      refine g_aload_n (pc' := 120)  hc rfl rfl rfl rfl ?_
      refine z_getR (pc' := 123)  hc rfl rfl rfl sh_61 rfl rfl ?_
      refine g_iload_n (pc' := 124)  hc rfl rfl rfl ?_
      have hb := (zwp_bnd h).1
      replace h := (zwp_bnd h).2
      refine z_iaload (pc' := 125) (v := (y20 x2.toNatClampNeg)) hc rfl rfl sh_64 hb rfl rfl ?_
      refine g_iconst (pc' := 126) (v := (-1 : Int32)) hc rfl zki_m1 rfl ?_
      refine zjn (G := (fun (j21 : Int32) => pm_ev C_X7_choose (d + 1) (pm_call M cost zext d) cost (false, false) 108 0 0 Q 143 [some (.ref 61), some (.ref 7), some (.int x1), some (.int x2), z17] [.int j21] 0 0 (zS p q I [(61, some 3, fun _ => y19), (61, some 4, fun _ => y18), (64, none, y20)] J []))) (zwp_bind h) ?_ (fun h => ?_)
      · rintro j21 h
        refine g_istore_n (pc' := 144) (ls1 := [some (.ref 61), some (.ref 7), some (.int j21), some (.int x2), z17]) hc rfl (zlt rfl) rfl rfl ?_
        refine g_iinc (pc' := 147) (ls1 := [some (.ref 61), some (.ref 7), some (.int j21), some (.int (x2 + (1 : Int32))), z17]) hc rfl rfl zki_1 (zlt rfl) rfl rfl ?_
        refine g_goto hc rfl ?_
        replace h := zwp_l h
        exact h z17 hz17
      refine g_icmp_ne (pc' := 129) hc rfl rfl (fun hx => ?_) (fun hx => ?_)
      · replace h := zwp_f h hx
        refine g_iload_n (pc' := 134)  hc rfl rfl rfl ?_
        refine g_iconst (pc' := 135) (v := (1 : Int32)) hc rfl zki_1 rfl ?_
        refine g_aload_n (pc' := 136)  hc rfl rfl rfl rfl ?_
        refine z_getR (pc' := 139)  hc rfl rfl rfl sh_61 rfl rfl ?_
        refine g_iload_n (pc' := 140)  hc rfl rfl rfl ?_
        have hb := (zwp_bnd h).1
        replace h := (zwp_bnd h).2
        refine z_iaload (pc' := 141) (v := (y20 x2.toNatClampNeg)) hc rfl rfl sh_64 hb rfl rfl ?_
        refine g_ishl (pc' := 142)  hc rfl rfl ?_
        refine g_ior (pc' := 143)  hc rfl rfl ?_
        replace h := zws h
        exact h
      · replace h := zwp_t h hx
        refine g_iload_n (pc' := 130)  hc rfl rfl rfl ?_
        refine g_goto hc rfl ?_
        replace h := zws h
        exact h
    refine zitr_ev (G := (fun (g : Int32 × Int32 × Int32 × (Nat → Int32)) => match g with | (x13, x14, x15, x16) => pm_ev C_X7_choose (d + 1) (pm_call M cost zext d) cost (false, false) 108 0 0 Q 32 [some (.ref 61), some (.ref 7), some (.int x1), some (.int x2), some (.int x13)] [] 0 0 (zS p q I [(61, some 3, fun _ => x15), (61, some 4, fun _ => x14), (64, none, x16)] J []))) ?_ zFU ((0 : Int32), x4, x5, (upd x6 x2.toNatClampNeg (-1 : Int32))) h
    rintro ⟨x13, x14, x15, x16⟩ h
    refine g_iload (pc' := 34)  hc rfl rfl rfl ?_
    refine g_aload_n (pc' := 35)  hc rfl rfl rfl rfl ?_
    refine z_getI (pc' := 38) (v := (I 7 7)) hc rfl rfl rfl sh_7 rfl rfl rfl ?_
    refine g_icmp_ge (pc' := 41) hc rfl rfl (fun hx => ?_) (fun hx => ?_)
    · replace h := zwp_t h hx
      replace h := zwp_r h
      exact h (some (.int x13)) rfl
    · replace h := zwp_f h hx
      refine g_aload_n (pc' := 42)  hc rfl rfl rfl rfl ?_
      refine z_getR (pc' := 45)  hc rfl rfl rfl sh_61 rfl rfl ?_
      refine g_iload_n (pc' := 46)  hc rfl rfl rfl ?_
      have hb := (zwp_bnd h).1
      replace h := (zwp_bnd h).2
      refine z_iaload (pc' := 47) (v := (x16 x2.toNatClampNeg)) hc rfl rfl sh_64 hb rfl rfl ?_
      refine g_iconst (pc' := 48) (v := (-1 : Int32)) hc rfl zki_m1 rfl ?_
      refine g_icmp_ne (pc' := 51) hc rfl rfl (fun hx => ?_) (fun hx => ?_)
      · replace h := zwp_f h hx
        replace h := zwp_r h
        exact h (some (.int x13)) rfl
      · replace h := zwp_t h hx
        refine g_aload_n (pc' := 52)  hc rfl rfl rfl rfl ?_
        refine g_iload_n (pc' := 53)  hc rfl rfl rfl ?_
        refine g_iload_n (pc' := 54)  hc rfl rfl rfl ?_
        refine g_iload (pc' := 56)  hc rfl rfl rfl ?_
        refine z_virt (as := [.int x2, .int x1, .int x13]) (a := 61) (r := []) hc rfl rfl rfl rfl sh_61 rfl zco_64 rfl rfl rfl ?_
        refine ok_X7_worthAt_61 (zdp hd rfl) (zwp_mono (zwp_bind h) ?_)
        rintro r22 h
        refine z_po (pc' := 59) (st' := [.int r22]) (v := (some (.int r22))) (L' := [(61, some 3, fun _ => x15), (61, some 4, fun _ => x14), (64, none, x16)]) (K' := []) zco_64 rfl rfl rfl rfl rfl rfl rfl rfl ?_
        refine g_aload_n (pc' := 60)  hc rfl rfl rfl rfl ?_
        refine z_getR (pc' := 63)  hc rfl rfl rfl sh_61 rfl rfl ?_
        refine g_iload_n (pc' := 64)  hc rfl rfl rfl ?_
        refine g_sipush (pc' := 67) (v := (256 : Int32)) hc rfl zks_256 rfl ?_
        refine g_imul (pc' := 68)  hc rfl rfl ?_
        refine g_iload_n (pc' := 69)  hc rfl rfl rfl ?_
        refine g_iadd (pc' := 70)  hc rfl rfl ?_
        have hb := (zwp_bnd h).1
        replace h := (zwp_bnd h).2
        refine z_iaload (pc' := 71) (v := (((I 63)) ((x2 * (256 : Int32)) + x1).toNatClampNeg)) hc rfl rfl sh_63 hb rfl rfl ?_
        refine g_icmp_ne (pc' := 74) hc rfl rfl (fun hx => ?_) (fun hx => ?_)
        · replace h := zwp_f h hx
          refine g_iinc (pc' := 116) (ls1 := [some (.ref 61), some (.ref 7), some (.int x1), some (.int x2), some (.int (x13 + (1 : Int32)))]) hc rfl rfl zki_1 (zlt rfl) rfl rfl ?_
          refine g_goto hc rfl ?_
          replace h := zwp_l h
          exact h
        · replace h := zwp_t h hx
          refine g_aload_n (pc' := 75)  hc rfl rfl rfl rfl ?_
          refine z_getR (pc' := 78)  hc rfl rfl rfl sh_61 rfl rfl ?_
          refine g_iload_n (pc' := 79)  hc rfl rfl rfl ?_
          refine g_iload (pc' := 81)  hc rfl rfl rfl ?_
          have hb := (zwp_bnd h).1
          replace h := (zwp_bnd h).2
          refine z_iastore (pc' := 82) (g := x16) (L' := [(61, some 3, fun _ => x15), (61, some 4, fun _ => x14), (64, none, (upd x16 x2.toNatClampNeg x13))]) hc rfl rfl sh_64 hb rfl rfl rfl rfl ?_
          refine g_aload_n (pc' := 83)  hc rfl rfl rfl rfl ?_
          refine g_dup (pc' := 84)  hc rfl rfl rfl ?_
          refine z_getI (pc' := 87) (v := x15) hc rfl rfl rfl sh_61 rfl rfl rfl ?_
          refine g_iconst (pc' := 88) (v := (1 : Int32)) hc rfl zki_1 rfl ?_
          refine g_iadd (pc' := 89)  hc rfl rfl ?_
          refine z_putI (pc' := 92) (L' := [(61, some 3, fun _ => (x15 + (1 : Int32))), (61, some 4, fun _ => x14), (64, none, (upd x16 x2.toNatClampNeg x13))]) hc rfl rfl rfl sh_61 rfl zft_7_3 rfl (fun h => Bool.noConfusion h) rfl rfl rfl ?_
          refine g_aload_n (pc' := 93)  hc rfl rfl rfl rfl ?_
          refine g_dup (pc' := 94)  hc rfl rfl rfl ?_
          refine z_getI (pc' := 97) (v := x14) hc rfl rfl rfl sh_61 rfl rfl rfl ?_
          refine g_aload_n (pc' := 98)  hc rfl rfl rfl rfl ?_
          refine z_getR (pc' := 101)  hc rfl rfl rfl sh_61 rfl rfl ?_
          refine g_iload_n (pc' := 102)  hc rfl rfl rfl ?_
          refine g_bipush (pc' := 104) (v := (8 : Int32)) hc rfl zkb_8 rfl ?_
          refine g_imul (pc' := 105)  hc rfl rfl ?_
          refine g_iload (pc' := 107)  hc rfl rfl rfl ?_
          refine g_iadd (pc' := 108)  hc rfl rfl ?_
          have hb := (zwp_bnd h).1
          replace h := (zwp_bnd h).2
          refine z_iaload (pc' := 109) (v := (((I 62)) ((x2 * (8 : Int32)) + x13).toNatClampNeg)) hc rfl rfl sh_62 hb rfl rfl ?_
          refine g_iadd (pc' := 110)  hc rfl rfl ?_
          refine z_putI (pc' := 113) (L' := [(61, some 3, fun _ => (x15 + (1 : Int32))), (61, some 4, fun _ => (x14 + (((I 62)) ((x2 * (8 : Int32)) + x13).toNatClampNeg))), (64, none, (upd x16 x2.toNatClampNeg x13))]) hc rfl rfl rfl sh_61 rfl zft_7_4 rfl (fun h => Bool.noConfusion h) rfl rfl rfl ?_
          refine g_iinc (pc' := 116) (ls1 := [some (.ref 61), some (.ref 7), some (.int x1), some (.int x2), some (.int (x13 + (1 : Int32)))]) hc rfl rfl zki_1 (zlt rfl) rfl rfl ?_
          refine g_goto hc rfl ?_
          replace h := zwp_l h
          exact h
set_option maxRecDepth 4000 in
theorem ok_X7_place_61_7_31_58 {p q : Nat} {I : pI} {J : pJ} {Q : pQ} {d : Nat} (hd : 5 ≤ d) (h : zwp (f_X7_place (I 63) (I 61 4) (I 62) (I 61 3) (I 7 3) (I 7 1) (I 11) (I 7 7) (I 7 0) (I 64) (I 32) (J 31 2) (I 59) (I 60)) (fun w => match w with | (o0, o1, o2, o3, o4, o5, o6) => Q (.inl none) (zS p q I [(59, none, o5), (60, none, o6), (61, some 3, fun _ => o3), (61, some 4, fun _ => o1), (62, none, o2), (63, none, o0), (64, none, o4)] J []))) : pm_call M cost zext d 61 [.ref 61, .ref 7, .ref 31, .ref 58] (pm_st 108 (shp p q) I J) Q := by
  obtain ⟨d, rfl⟩ := zd1 hd rfl
  have hc := pm_call_m (M := M) (cost := cost) zext_m d
  refine z_in (L := [(59, none, (I 59)), (60, none, (I 60)), (61, some 3, fun _ => (I 61 3)), (61, some 4, fun _ => (I 61 4)), (62, none, (I 62)), (63, none, (I 63)), (64, none, (I 64))]) (K := []) (ls := [some (.ref 61), some (.ref 7), some (.ref 31), some (.ref 58), none, none]) zmt_61 zco_61 rfl rfl (zid_a (zid_a (zid_s (zid_s (zid_a (zid_a (zid_a zid_n))))))) zid_n ?_
  delta f_X7_place at h
  refine g_aload_n (pc' := 1)  hc rfl rfl rfl rfl ?_
  refine g_aload_n (pc' := 2)  hc rfl rfl rfl rfl ?_
  refine g_aload_n (pc' := 3)  hc rfl rfl rfl rfl ?_
  refine g_aload_n (pc' := 4)  hc rfl rfl rfl rfl ?_
  refine z_virt (as := [.ref 7, .ref 31, .ref 58]) (a := 61) (r := []) hc rfl rfl rfl rfl sh_61 rfl zco_62 rfl rfl rfl ?_
  refine ok_X7_measureAll_61_7_31_58 (zdp hd rfl) (zwp_mono (zwp_bind h) ?_)
  rintro ⟨o1, o2, o3⟩ h
  refine z_po (pc' := 7) (st' := []) (v := none) (L' := [(59, none, o2), (60, none, o3), (61, some 3, fun _ => (I 61 3)), (61, some 4, fun _ => (I 61 4)), (62, none, o1), (63, none, (I 63)), (64, none, (I 64))]) (K' := []) zco_62 rfl rfl rfl rfl rfl rfl rfl rfl ?_
  refine g_aload_n (pc' := 8)  hc rfl rfl rfl rfl ?_
  refine z_getR (pc' := 11)  hc rfl rfl rfl sh_61 rfl rfl ?_
  refine g_iconst (pc' := 12) (v := (0 : Int32)) hc rfl zki_0 rfl ?_
  refine z_stat (as := [.ref 63, .int (0 : Int32)]) (r := []) hc rfl rfl rfl rfl zco_268 rfl rfl rfl ?_
  refine ok_J7_fill_53178_63 (zdp hd rfl) (zwp_mono (zwp_bind h) ?_)
  rintro o4 h
  refine z_po (pc' := 15) (st' := []) (v := none) (L' := [(59, none, o2), (60, none, o3), (61, some 3, fun _ => (I 61 3)), (61, some 4, fun _ => (I 61 4)), (62, none, o1), (63, none, o4), (64, none, (I 64))]) (K' := []) zco_268 rfl rfl rfl rfl rfl rfl rfl rfl ?_
  refine g_aload_n (pc' := 16)  hc rfl rfl rfl rfl ?_
  refine z_getI (pc' := 19) (v := (I 7 3)) hc rfl rfl rfl sh_7 rfl rfl rfl ?_
  refine g_iconst (pc' := 20) (v := (1 : Int32)) hc rfl zki_1 rfl ?_
  refine g_isub (pc' := 21)  hc rfl rfl ?_
  refine g_istore (pc' := 23) (ls1 := [some (.ref 61), some (.ref 7), some (.ref 31), some (.ref 58), some (.int (((I 7 3)) - (1 : Int32))), none]) hc rfl (zlt rfl) rfl rfl ?_
  refine zjn (G := (fun (y10 : (Nat → Int32)) => ∀ z8 : Option Value, znl z8 = true → ∀ z9 : Option Value, znl z9 = true → pm_ev C_X7_place (d + 1) (pm_call M cost zext d) cost (false, false) 108 0 0 Q 77 [some (.ref 61), some (.ref 7), some (.ref 31), some (.ref 58), z8, z9] [] 0 0 (zS p q I [(59, none, o2), (60, none, o3), (61, some 3, fun _ => (I 61 3)), (61, some 4, fun _ => (I 61 4)), (62, none, o1), (63, none, y10), (64, none, (I 64))] J []))) (zwp_bind h) ?_ (fun h => ?_)
  · rintro y10 h z8 hz8 z9 hz9
    refine g_aload_n (pc' := 78)  hc rfl rfl rfl rfl ?_
    refine g_aload_n (pc' := 79)  hc rfl rfl rfl rfl ?_
    refine z_virt (as := [.ref 7]) (a := 61) (r := []) hc rfl rfl rfl rfl sh_61 rfl zco_65 rfl rfl rfl ?_
    refine ok_X7_choose_61_7 (zdp hd rfl) (zwp_mono (zwp_bind h) ?_)
    rintro ⟨o11, o12, o13⟩ h
    refine z_po (pc' := 82) (st' := []) (v := none) (L' := [(59, none, o2), (60, none, o3), (61, some 3, fun _ => o12), (61, some 4, fun _ => o11), (62, none, o1), (63, none, y10), (64, none, o13)]) (K' := []) zco_65 rfl rfl rfl rfl rfl rfl rfl rfl ?_
    replace h := zws h
    exact g_return hc rfl rfl (fun _ => ⟨rfl, rfl⟩) h
  refine zitr_ev (G := (fun (g : Int32 × (Nat → Int32)) => match g with | (x5, x7) => ∀ z6 : Option Value, znl z6 = true → pm_ev C_X7_place (d + 1) (pm_call M cost zext d) cost (false, false) 108 0 0 Q 23 [some (.ref 61), some (.ref 7), some (.ref 31), some (.ref 58), some (.int x5), z6] [] 0 0 (zS p q I [(59, none, o2), (60, none, o3), (61, some 3, fun _ => (I 61 3)), (61, some 4, fun _ => (I 61 4)), (62, none, o1), (63, none, x7), (64, none, (I 64))] J []))) ?_ zFU ((((I 7 3)) - (1 : Int32)), o4) h none rfl
  rintro ⟨x5, x7⟩ h z6 hz6
  refine g_iload (pc' := 25)  hc rfl rfl rfl ?_
  refine g_if_lt (pc' := 28) hc rfl rfl (fun hx => ?_) (fun hx => ?_)
  · replace h := zwp_t h hx
    replace h := zwp_r h
    exact h (some (.int x5)) rfl z6 hz6
  · replace h := zwp_f h hx
    refine g_iconst (pc' := 29) (v := (0 : Int32)) hc rfl zki_0 rfl ?_
    refine g_istore (pc' := 31) (ls1 := [some (.ref 61), some (.ref 7), some (.ref 31), some (.ref 58), some (.int x5), some (.int (0 : Int32))]) hc rfl (zlt rfl) rfl rfl ?_
    refine zjn (G := (fun (y17 : (Nat → Int32)) => ∀ z16 : Option Value, znl z16 = true → pm_ev C_X7_place (d + 1) (pm_call M cost zext d) cost (false, false) 108 0 0 Q 71 [some (.ref 61), some (.ref 7), some (.ref 31), some (.ref 58), some (.int x5), z16] [] 0 0 (zS p q I [(59, none, o2), (60, none, o3), (61, some 3, fun _ => (I 61 3)), (61, some 4, fun _ => (I 61 4)), (62, none, o1), (63, none, y17), (64, none, (I 64))] J []))) (zwp_bind h) ?_ (fun h => ?_)
    · rintro y17 h z16 hz16
      refine g_iinc (pc' := 74) (ls1 := [some (.ref 61), some (.ref 7), some (.ref 31), some (.ref 58), some (.int (x5 + (-1 : Int32))), z16]) hc rfl rfl zki_m1 (zlt rfl) rfl rfl ?_
      refine g_goto hc rfl ?_
      replace h := zwp_l h
      exact h z16 hz16
    refine zitr_ev (G := (fun (g : Int32 × (Nat → Int32)) => match g with | (x14, x15) => pm_ev C_X7_place (d + 1) (pm_call M cost zext d) cost (false, false) 108 0 0 Q 31 [some (.ref 61), some (.ref 7), some (.ref 31), some (.ref 58), some (.int x5), some (.int x14)] [] 0 0 (zS p q I [(59, none, o2), (60, none, o3), (61, some 3, fun _ => (I 61 3)), (61, some 4, fun _ => (I 61 4)), (62, none, o1), (63, none, x15), (64, none, (I 64))] J []))) ?_ zFU ((0 : Int32), x7) h
    rintro ⟨x14, x15⟩ h
    refine g_iload (pc' := 33)  hc rfl rfl rfl ?_
    refine g_iconst (pc' := 34) (v := (1 : Int32)) hc rfl zki_1 rfl ?_
    refine g_aload_n (pc' := 35)  hc rfl rfl rfl rfl ?_
    refine z_getI (pc' := 38) (v := (I 7 7)) hc rfl rfl rfl sh_7 rfl rfl rfl ?_
    refine g_ishl (pc' := 39)  hc rfl rfl ?_
    refine g_icmp_ge (pc' := 42) hc rfl rfl (fun hx => ?_) (fun hx => ?_)
    · replace h := zwp_t h hx
      replace h := zwp_r h
      exact h (some (.int x14)) rfl
    · replace h := zwp_f h hx
      refine g_aload_n (pc' := 43)  hc rfl rfl rfl rfl ?_
      refine z_getR (pc' := 46)  hc rfl rfl rfl sh_61 rfl rfl ?_
      refine g_iload (pc' := 48)  hc rfl rfl rfl ?_
      refine g_sipush (pc' := 51) (v := (256 : Int32)) hc rfl zks_256 rfl ?_
      refine g_imul (pc' := 52)  hc rfl rfl ?_
      refine g_iload (pc' := 54)  hc rfl rfl rfl ?_
      refine g_iadd (pc' := 55)  hc rfl rfl ?_
      refine g_aload_n (pc' := 56)  hc rfl rfl rfl rfl ?_
      refine g_aload_n (pc' := 57)  hc rfl rfl rfl rfl ?_
      refine g_iload (pc' := 59)  hc rfl rfl rfl ?_
      refine g_iload (pc' := 61)  hc rfl rfl rfl ?_
      refine z_virt (as := [.ref 7, .int x5, .int x14]) (a := 61) (r := [.int ((x5 * (256 : Int32)) + x14), .ref 63]) hc rfl rfl rfl rfl sh_61 rfl zco_63 rfl rfl rfl ?_
      refine ok_X7_bestFrom_61_7 (zdp hd rfl) (zwp_mono (zwp_bind h) ?_)
      rintro r18 h
      refine z_po (pc' := 64) (st' := [.int r18, .int ((x5 * (256 : Int32)) + x14), .ref 63]) (v := (some (.int r18))) (L' := [(59, none, o2), (60, none, o3), (61, some 3, fun _ => (I 61 3)), (61, some 4, fun _ => (I 61 4)), (62, none, o1), (63, none, x15), (64, none, (I 64))]) (K' := []) zco_63 rfl rfl rfl rfl rfl rfl rfl rfl ?_
      have hb := (zwp_bnd h).1
      replace h := (zwp_bnd h).2
      refine z_iastore (pc' := 65) (g := x15) (L' := [(59, none, o2), (60, none, o3), (61, some 3, fun _ => (I 61 3)), (61, some 4, fun _ => (I 61 4)), (62, none, o1), (63, none, (upd x15 ((x5 * (256 : Int32)) + x14).toNatClampNeg r18)), (64, none, (I 64))]) hc rfl rfl sh_63 hb rfl rfl rfl rfl ?_
      refine g_iinc (pc' := 68) (ls1 := [some (.ref 61), some (.ref 7), some (.ref 31), some (.ref 58), some (.int x5), some (.int (x14 + (1 : Int32)))]) hc rfl rfl zki_1 (zlt rfl) rfl rfl ?_
      refine g_goto hc rfl ?_
      replace h := zwp_l h
      exact h
set_option maxRecDepth 4000 in
theorem ok_X11_seats_0_p {I : pI} {J : pJ} {a1 : Int32} {Q : pQ} {d : Nat} (hd : 8 ≤ d) (h : zwp (f_X11_seats a1 (I 32) (J 31 2) (I 7 3) (I 7 1) (I 11) (I 7 7) (I 7 0) (I 63) (I 61 4) (I 62) (I 61 3) (I 64) (I 59) (I 60)) (fun w => match w with | (.inl r, o0, o1, o2, o3, o4, o5, o6) => Q (.inl (some (.int r))) (zS 7 19 I [(59, none, o5), (60, none, o6), (61, some 3, fun _ => o3), (61, some 4, fun _ => o1), (62, none, o2), (63, none, o0), (64, none, o4)] J []) | (.inr E, o0, o1, o2, o3, o4, o5, o6) => Q (.inr E) (zS 7 19 I [(59, none, o5), (60, none, o6), (61, some 3, fun _ => o3), (61, some 4, fun _ => o1), (62, none, o2), (63, none, o0), (64, none, o4)] J []))) : pm_call M cost zext d 118 [.ref 0, .int a1] (pm_st 108 (shp 7 19) I J) Q := by
  obtain ⟨d, rfl⟩ := zd1 hd rfl
  have hc := pm_call_m (M := M) (cost := cost) zext_m d
  refine z_in (L := [(59, none, (I 59)), (60, none, (I 60)), (61, some 3, fun _ => (I 61 3)), (61, some 4, fun _ => (I 61 4)), (62, none, (I 62)), (63, none, (I 63)), (64, none, (I 64))]) (K := []) (ls := [some (.ref 0), some (.int a1)]) zmt_118 zco_118 rfl rfl (zid_a (zid_a (zid_s (zid_s (zid_a (zid_a (zid_a zid_n))))))) zid_n ?_
  delta f_X11_seats at h
  refine g_iload_n (pc' := 1)  hc rfl rfl rfl ?_
  refine g_iconst (pc' := 2) (v := (1 : Int32)) hc rfl zki_1 rfl ?_
  refine z_stat (as := [.int a1, .int (1 : Int32)]) (r := []) hc rfl rfl rfl rfl zco_135 rfl rfl rfl ?_
  refine ok_X11_checkWhat (zdp hd rfl) (zwp_mono (zwp_bind h) ?_)
  rintro (⟨⟩ | E1) h
  · refine z_po (pc' := 5) (st' := []) (v := none) (L' := [(59, none, (I 59)), (60, none, (I 60)), (61, some 3, fun _ => (I 61 3)), (61, some 4, fun _ => (I 61 4)), (62, none, (I 62)), (63, none, (I 63)), (64, none, (I 64))]) (K' := []) zco_135 rfl rfl rfl rfl rfl rfl rfl rfl ?_
    refine g_aload_n (pc' := 6)  hc rfl rfl rfl rfl ?_
    refine z_getR (pc' := 9)  hc rfl rfl rfl sh_0 rfl rfl ?_
    refine g_aload_n (pc' := 10)  hc rfl rfl rfl rfl ?_
    refine z_getR (pc' := 13)  hc rfl rfl rfl sh_0 rfl rfl ?_
    refine g_aload_n (pc' := 14)  hc rfl rfl rfl rfl ?_
    refine z_getR (pc' := 17)  hc rfl rfl rfl sh_0 rfl rfl ?_
    refine g_aload_n (pc' := 18)  hc rfl rfl rfl rfl ?_
    refine z_getR (pc' := 21)  hc rfl rfl rfl sh_0 rfl rfl ?_
    refine z_virt (as := [.ref 7, .ref 31, .ref 58]) (a := 61) (r := []) hc rfl rfl rfl rfl sh_61 rfl zco_61 rfl rfl rfl ?_
    refine ok_X7_place_61_7_31_58 (zdp hd rfl) (zwp_mono (zwp_bind h) ?_)
    rintro ⟨o2, o3, o4, o5, o6, o7, o8⟩ h
    refine z_po (pc' := 24) (st' := []) (v := none) (L' := [(59, none, o7), (60, none, o8), (61, some 3, fun _ => o5), (61, some 4, fun _ => o3), (62, none, o4), (63, none, o2), (64, none, o6)]) (K' := []) zco_61 rfl rfl rfl rfl rfl rfl rfl rfl ?_
    refine g_iload_n (pc' := 25)  hc rfl rfl rfl ?_
    refine g_if_ne (pc' := 28) hc rfl rfl (fun hx => ?_) (fun hx => ?_)
    · replace h := zwp_f h hx
      refine g_aload_n (pc' := 39)  hc rfl rfl rfl rfl ?_
      refine z_getR (pc' := 42)  hc rfl rfl rfl sh_0 rfl rfl ?_
      refine z_getI (pc' := 45) (v := o3) hc rfl rfl rfl sh_61 rfl rfl rfl ?_
      replace h := zws h
      exact g_ireturn hc rfl rfl rfl (fun _ => ⟨rfl, rfl⟩) h
    · replace h := zwp_t h hx
      refine g_aload_n (pc' := 29)  hc rfl rfl rfl rfl ?_
      refine z_getR (pc' := 32)  hc rfl rfl rfl sh_0 rfl rfl ?_
      refine z_getI (pc' := 35) (v := o5) hc rfl rfl rfl sh_61 rfl rfl rfl ?_
      refine g_goto hc rfl ?_
      replace h := zws h
      exact g_ireturn hc rfl rfl rfl (fun _ => ⟨rfl, rfl⟩) h
  · replace h := zws h
    exact z_pox (L' := [(59, none, (I 59)), (60, none, (I 60)), (61, some 3, fun _ => (I 61 3)), (61, some 4, fun _ => (I 61 4)), (62, none, (I 62)), (63, none, (I 63)), (64, none, (I 64))]) (K' := []) rfl rfl rfl rfl rfl rfl rfl h
set_option maxRecDepth 4000 in
theorem ok_L_seats_0_107_p {I : pI} {J : pJ} {a1 : Int32} {Q : pQ} {d : Nat} (hd : 9 ≤ d) (h : zwp (f_L_seats a1 1 (J 107) (I 32) (J 31 2) (I 7 3) (I 7 1) (I 11) (I 7 7) (I 7 0) (I 63) (I 61 4) (I 62) (I 61 3) (I 64) (I 59) (I 60)) (fun w => match w with | (r, o0, o1, o2, o3, o4, o5, o6, o7) => Q (.inl (some (.int r))) (zS 7 19 I [(59, none, o6), (60, none, o7), (61, some 3, fun _ => o4), (61, some 4, fun _ => o2), (62, none, o3), (63, none, o1), (64, none, o5)] J [(107, none, o0)]))) : pm_call M cost zext d 288 [.ref 0, .int a1, .ref 107] (pm_st 108 (shp 7 19) I J) Q := by
  obtain ⟨d, rfl⟩ := zd1 hd rfl
  have hc := pm_call_m (M := M) (cost := cost) zext_m d
  refine z_in (L := [(59, none, (I 59)), (60, none, (I 60)), (61, some 3, fun _ => (I 61 3)), (61, some 4, fun _ => (I 61 4)), (62, none, (I 62)), (63, none, (I 63)), (64, none, (I 64))]) (K := [(107, none, (J 107))]) (ls := [some (.ref 0), some (.int a1), some (.ref 107), none]) zmt_288 zco_288 rfl rfl (zid_a (zid_a (zid_s (zid_s (zid_a (zid_a (zid_a zid_n))))))) (zid_a zid_n) ?_
  delta f_L_seats at h
  refine g_aload_n (pc' := 1)  hc rfl rfl rfl rfl ?_
  refine g_iconst (pc' := 2) (v := (0 : Int32)) hc rfl zki_0 rfl ?_
  refine g_aload_n (pc' := 3)  hc rfl rfl rfl rfl ?_
  refine g_iload_n (pc' := 4)  hc rfl rfl rfl ?_
  refine z_virt (as := [.int a1]) (a := 0) (r := [.int (0 : Int32), .ref 107]) hc rfl rfl rfl rfl sh_0 rfl zco_118 rfl rfl rfl ?_
  refine ok_X11_seats_0_p (zdp hd rfl) (zwp_mono (zwp_bind h) ?_)
  rintro ⟨(r8 | E9), o1, o2, o3, o4, o5, o6, o7⟩ h
  · refine z_po (pc' := 7) (st' := [.int r8, .int (0 : Int32), .ref 107]) (v := (some (.int r8))) (L' := [(59, none, o6), (60, none, o7), (61, some 3, fun _ => o4), (61, some 4, fun _ => o2), (62, none, o3), (63, none, o1), (64, none, o5)]) (K' := [(107, none, (J 107))]) zco_118 rfl rfl rfl rfl rfl rfl rfl rfl ?_
    refine g_i2l (pc' := 8)  hc rfl rfl ?_
    have hb := (zwp_bnd h).1
    replace h := (zwp_bnd h).2
    refine z_lastore (pc' := 9) (g := (J 107)) (K' := [(107, none, (vp_updL ((J 107)) (0 : Int32).toNatClampNeg r8.toInt64))]) hc rfl rfl sh_107 hb rfl rfl rfl rfl ?_
    refine g_goto hc rfl ?_
    refine g_iconst (pc' := 16) (v := (0 : Int32)) hc rfl zki_0 rfl ?_
    replace h := zws h
    exact g_ireturn hc rfl rfl rfl (fun _ => ⟨rfl, rfl⟩) h
  · by_cases hE : E9 = x_N
    · replace h := zwp_t h hE
      replace h := zws h
      exact z_poh (L' := [(59, none, o6), (60, none, o7), (61, some 3, fun _ => o4), (61, some 4, fun _ => o2), (62, none, o3), (63, none, o1), (64, none, o5)]) (K' := [(107, none, (J 107))]) (zhd1 (e := 9) (pc := 4) rfl hE) rfl rfl rfl rfl rfl rfl rfl rfl h
    replace h := zwp_f h hE
    exact (zwn h).elim
set_option maxRecDepth 4000 in
theorem ok_X11_seat_0_p {I : pI} {J : pJ} {a1 : Int32} {Q : pQ} {d : Nat} (hd : 8 ≤ d) (h : zwp (f_X11_seat a1 (I 32) (J 31 2) (I 7 3) (I 7 1) (I 11) (I 7 7) (I 7 0) (I 63) (I 61 4) (I 62) (I 61 3) (I 64) (I 59) (I 60)) (fun w => match w with | (.inl r, o0, o1, o2, o3, o4, o5, o6) => Q (.inl (some (.int r))) (zS 7 19 I [(59, none, o5), (60, none, o6), (61, some 3, fun _ => o3), (61, some 4, fun _ => o1), (62, none, o2), (63, none, o0), (64, none, o4)] J []) | (.inr E, o0, o1, o2, o3, o4, o5, o6) => Q (.inr E) (zS 7 19 I [(59, none, o5), (60, none, o6), (61, some 3, fun _ => o3), (61, some 4, fun _ => o1), (62, none, o2), (63, none, o0), (64, none, o4)] J []))) : pm_call M cost zext d 119 [.ref 0, .int a1] (pm_st 108 (shp 7 19) I J) Q := by
  obtain ⟨d, rfl⟩ := zd1 hd rfl
  have hc := pm_call_m (M := M) (cost := cost) zext_m d
  refine z_in (L := [(59, none, (I 59)), (60, none, (I 60)), (61, some 3, fun _ => (I 61 3)), (61, some 4, fun _ => (I 61 4)), (62, none, (I 62)), (63, none, (I 63)), (64, none, (I 64))]) (K := []) (ls := [some (.ref 0), some (.int a1)]) zmt_119 zco_119 rfl rfl (zid_a (zid_a (zid_s (zid_s (zid_a (zid_a (zid_a zid_n))))))) zid_n ?_
  delta f_X11_seat at h
  refine g_aload_n (pc' := 1)  hc rfl rfl rfl rfl ?_
  refine g_iload_n (pc' := 2)  hc rfl rfl rfl ?_
  refine z_virt (as := [.int a1]) (a := 0) (r := []) hc rfl rfl rfl rfl sh_0 rfl zco_133 rfl rfl rfl ?_
  refine ok_X11_checkFigure_0_p (zdp hd rfl) (zwp_mono (zwp_bind h) ?_)
  rintro (⟨⟩ | E1) h
  · refine z_po (pc' := 5) (st' := []) (v := none) (L' := [(59, none, (I 59)), (60, none, (I 60)), (61, some 3, fun _ => (I 61 3)), (61, some 4, fun _ => (I 61 4)), (62, none, (I 62)), (63, none, (I 63)), (64, none, (I 64))]) (K' := []) zco_133 rfl rfl rfl rfl rfl rfl rfl rfl ?_
    refine g_aload_n (pc' := 6)  hc rfl rfl rfl rfl ?_
    refine z_getR (pc' := 9)  hc rfl rfl rfl sh_0 rfl rfl ?_
    refine g_aload_n (pc' := 10)  hc rfl rfl rfl rfl ?_
    refine z_getR (pc' := 13)  hc rfl rfl rfl sh_0 rfl rfl ?_
    refine g_aload_n (pc' := 14)  hc rfl rfl rfl rfl ?_
    refine z_getR (pc' := 17)  hc rfl rfl rfl sh_0 rfl rfl ?_
    refine g_aload_n (pc' := 18)  hc rfl rfl rfl rfl ?_
    refine z_getR (pc' := 21)  hc rfl rfl rfl sh_0 rfl rfl ?_
    refine z_virt (as := [.ref 7, .ref 31, .ref 58]) (a := 61) (r := []) hc rfl rfl rfl rfl sh_61 rfl zco_61 rfl rfl rfl ?_
    refine ok_X7_place_61_7_31_58 (zdp hd rfl) (zwp_mono (zwp_bind h) ?_)
    rintro ⟨o2, o3, o4, o5, o6, o7, o8⟩ h
    refine z_po (pc' := 24) (st' := []) (v := none) (L' := [(59, none, o7), (60, none, o8), (61, some 3, fun _ => o5), (61, some 4, fun _ => o3), (62, none, o4), (63, none, o2), (64, none, o6)]) (K' := []) zco_61 rfl rfl rfl rfl rfl rfl rfl rfl ?_
    refine g_aload_n (pc' := 25)  hc rfl rfl rfl rfl ?_
    refine z_getR (pc' := 28)  hc rfl rfl rfl sh_0 rfl rfl ?_
    refine z_getR (pc' := 31)  hc rfl rfl rfl sh_61 rfl rfl ?_
    refine g_iload_n (pc' := 32)  hc rfl rfl rfl ?_
    have hb := (zwp_bnd h).1
    replace h := (zwp_bnd h).2
    refine z_iaload (pc' := 33) (v := (o6 a1.toNatClampNeg)) hc rfl rfl sh_64 hb rfl rfl ?_
    replace h := zws h
    exact g_ireturn hc rfl rfl rfl (fun _ => ⟨rfl, rfl⟩) h
  · replace h := zws h
    exact z_pox (L' := [(59, none, (I 59)), (60, none, (I 60)), (61, some 3, fun _ => (I 61 3)), (61, some 4, fun _ => (I 61 4)), (62, none, (I 62)), (63, none, (I 63)), (64, none, (I 64))]) (K' := []) rfl rfl rfl rfl rfl rfl rfl h
set_option maxRecDepth 4000 in
theorem ok_L_seat_0_107_p {I : pI} {J : pJ} {a1 : Int32} {Q : pQ} {d : Nat} (hd : 9 ≤ d) (h : zwp (f_L_seat a1 1 (J 107) (I 32) (J 31 2) (I 7 3) (I 7 1) (I 11) (I 7 7) (I 7 0) (I 63) (I 61 4) (I 62) (I 61 3) (I 64) (I 59) (I 60)) (fun w => match w with | (r, o0, o1, o2, o3, o4, o5, o6, o7) => Q (.inl (some (.int r))) (zS 7 19 I [(59, none, o6), (60, none, o7), (61, some 3, fun _ => o4), (61, some 4, fun _ => o2), (62, none, o3), (63, none, o1), (64, none, o5)] J [(107, none, o0)]))) : pm_call M cost zext d 289 [.ref 0, .int a1, .ref 107] (pm_st 108 (shp 7 19) I J) Q := by
  obtain ⟨d, rfl⟩ := zd1 hd rfl
  have hc := pm_call_m (M := M) (cost := cost) zext_m d
  refine z_in (L := [(59, none, (I 59)), (60, none, (I 60)), (61, some 3, fun _ => (I 61 3)), (61, some 4, fun _ => (I 61 4)), (62, none, (I 62)), (63, none, (I 63)), (64, none, (I 64))]) (K := [(107, none, (J 107))]) (ls := [some (.ref 0), some (.int a1), some (.ref 107), none]) zmt_289 zco_289 rfl rfl (zid_a (zid_a (zid_s (zid_s (zid_a (zid_a (zid_a zid_n))))))) (zid_a zid_n) ?_
  delta f_L_seat at h
  refine g_aload_n (pc' := 1)  hc rfl rfl rfl rfl ?_
  refine g_iconst (pc' := 2) (v := (0 : Int32)) hc rfl zki_0 rfl ?_
  refine g_aload_n (pc' := 3)  hc rfl rfl rfl rfl ?_
  refine g_iload_n (pc' := 4)  hc rfl rfl rfl ?_
  refine z_virt (as := [.int a1]) (a := 0) (r := [.int (0 : Int32), .ref 107]) hc rfl rfl rfl rfl sh_0 rfl zco_119 rfl rfl rfl ?_
  refine ok_X11_seat_0_p (zdp hd rfl) (zwp_mono (zwp_bind h) ?_)
  rintro ⟨(r8 | E9), o1, o2, o3, o4, o5, o6, o7⟩ h
  · refine z_po (pc' := 7) (st' := [.int r8, .int (0 : Int32), .ref 107]) (v := (some (.int r8))) (L' := [(59, none, o6), (60, none, o7), (61, some 3, fun _ => o4), (61, some 4, fun _ => o2), (62, none, o3), (63, none, o1), (64, none, o5)]) (K' := [(107, none, (J 107))]) zco_119 rfl rfl rfl rfl rfl rfl rfl rfl ?_
    refine g_i2l (pc' := 8)  hc rfl rfl ?_
    have hb := (zwp_bnd h).1
    replace h := (zwp_bnd h).2
    refine z_lastore (pc' := 9) (g := (J 107)) (K' := [(107, none, (vp_updL ((J 107)) (0 : Int32).toNatClampNeg r8.toInt64))]) hc rfl rfl sh_107 hb rfl rfl rfl rfl ?_
    refine g_goto hc rfl ?_
    refine g_iconst (pc' := 16) (v := (0 : Int32)) hc rfl zki_0 rfl ?_
    replace h := zws h
    exact g_ireturn hc rfl rfl rfl (fun _ => ⟨rfl, rfl⟩) h
  · by_cases hE : E9 = x_N
    · replace h := zwp_t h hE
      replace h := zws h
      exact z_poh (L' := [(59, none, o6), (60, none, o7), (61, some 3, fun _ => o4), (61, some 4, fun _ => o2), (62, none, o3), (63, none, o1), (64, none, o5)]) (K' := [(107, none, (J 107))]) (zhd1 (e := 9) (pc := 4) rfl hE) rfl rfl rfl rfl rfl rfl rfl rfl h
    replace h := zwp_f h hE
    exact (zwn h).elim
set_option maxRecDepth 4000 in
theorem ok_X0_add_36 {p q : Nat} {I : pI} {J : pJ} {a1 : Int32} {a2 : Int32} {a3 : Int32} {Q : pQ} {d : Nat} (hd : 1 ≤ d) (h : zwp (f_X0_add a1 a2 a3 (I 39) (I 38) (I 40) (I 36 3)) (fun w => match w with | (o0, o1, o2, o3) => Q (.inl none) (zS p q I [(36, some 3, fun _ => o3), (38, none, o1), (39, none, o0), (40, none, o2)] J []))) : pm_call M cost zext d 5 [.ref 36, .int a1, .int a2, .int a3] (pm_st 108 (shp p q) I J) Q := by
  obtain ⟨d, rfl⟩ := zd1 hd rfl
  have hc := pm_call_m (M := M) (cost := cost) zext_m d
  refine z_in (L := [(36, some 3, fun _ => (I 36 3)), (38, none, (I 38)), (39, none, (I 39)), (40, none, (I 40))]) (K := []) (ls := [some (.ref 36), some (.int a1), some (.int a2), some (.int a3)]) zmt_5 zco_5 rfl rfl (zid_s (zid_a (zid_a (zid_a zid_n)))) zid_n ?_
  delta f_X0_add at h
  refine g_aload_n (pc' := 1)  hc rfl rfl rfl rfl ?_
  refine z_getI (pc' := 4) (v := (I 36 3)) hc rfl rfl rfl sh_36 rfl rfl rfl ?_
  refine g_bipush (pc' := 6) (v := (8 : Int32)) hc rfl zkb_8 rfl ?_
  refine g_icmp_ge (pc' := 9) hc rfl rfl (fun hx => ?_) (fun hx => ?_)
  · replace h := zwp_t h hx
    replace h := zws h
    exact g_return hc rfl rfl (fun _ => ⟨rfl, rfl⟩) h
  · replace h := zwp_f h hx
    refine g_aload_n (pc' := 10)  hc rfl rfl rfl rfl ?_
    refine z_getR (pc' := 13)  hc rfl rfl rfl sh_36 rfl rfl ?_
    refine g_aload_n (pc' := 14)  hc rfl rfl rfl rfl ?_
    refine z_getI (pc' := 17) (v := (I 36 3)) hc rfl rfl rfl sh_36 rfl rfl rfl ?_
    refine g_iload_n (pc' := 18)  hc rfl rfl rfl ?_
    have hb := (zwp_bnd h).1
    replace h := (zwp_bnd h).2
    refine z_iastore (pc' := 19) (g := (I 38)) (L' := [(36, some 3, fun _ => (I 36 3)), (38, none, (upd ((I 38)) ((I 36 3)).toNatClampNeg a1)), (39, none, (I 39)), (40, none, (I 40))]) hc rfl rfl sh_38 hb rfl rfl rfl rfl ?_
    refine g_aload_n (pc' := 20)  hc rfl rfl rfl rfl ?_
    refine z_getR (pc' := 23)  hc rfl rfl rfl sh_36 rfl rfl ?_
    refine g_aload_n (pc' := 24)  hc rfl rfl rfl rfl ?_
    refine z_getI (pc' := 27) (v := (I 36 3)) hc rfl rfl rfl sh_36 rfl rfl rfl ?_
    refine g_iload_n (pc' := 28)  hc rfl rfl rfl ?_
    have hb := (zwp_bnd h).1
    replace h := (zwp_bnd h).2
    refine z_iastore (pc' := 29) (g := (I 39)) (L' := [(36, some 3, fun _ => (I 36 3)), (38, none, (upd ((I 38)) ((I 36 3)).toNatClampNeg a1)), (39, none, (upd ((I 39)) ((I 36 3)).toNatClampNeg a2)), (40, none, (I 40))]) hc rfl rfl sh_39 hb rfl rfl rfl rfl ?_
    refine g_aload_n (pc' := 30)  hc rfl rfl rfl rfl ?_
    refine z_getR (pc' := 33)  hc rfl rfl rfl sh_36 rfl rfl ?_
    refine g_aload_n (pc' := 34)  hc rfl rfl rfl rfl ?_
    refine z_getI (pc' := 37) (v := (I 36 3)) hc rfl rfl rfl sh_36 rfl rfl rfl ?_
    refine g_iload_n (pc' := 38)  hc rfl rfl rfl ?_
    have hb := (zwp_bnd h).1
    replace h := (zwp_bnd h).2
    refine z_iastore (pc' := 39) (g := (I 40)) (L' := [(36, some 3, fun _ => (I 36 3)), (38, none, (upd ((I 38)) ((I 36 3)).toNatClampNeg a1)), (39, none, (upd ((I 39)) ((I 36 3)).toNatClampNeg a2)), (40, none, (upd ((I 40)) ((I 36 3)).toNatClampNeg a3))]) hc rfl rfl sh_40 hb rfl rfl rfl rfl ?_
    refine g_aload_n (pc' := 40)  hc rfl rfl rfl rfl ?_
    refine g_dup (pc' := 41)  hc rfl rfl rfl ?_
    refine z_getI (pc' := 44) (v := (I 36 3)) hc rfl rfl rfl sh_36 rfl rfl rfl ?_
    refine g_iconst (pc' := 45) (v := (1 : Int32)) hc rfl zki_1 rfl ?_
    refine g_iadd (pc' := 46)  hc rfl rfl ?_
    refine z_putI (pc' := 49) (L' := [(36, some 3, fun _ => (((I 36 3)) + (1 : Int32))), (38, none, (upd ((I 38)) ((I 36 3)).toNatClampNeg a1)), (39, none, (upd ((I 39)) ((I 36 3)).toNatClampNeg a2)), (40, none, (upd ((I 40)) ((I 36 3)).toNatClampNeg a3))]) hc rfl rfl rfl sh_36 rfl zft_0_3 rfl (fun h => Bool.noConfusion h) rfl rfl rfl ?_
    replace h := zws h
    exact g_return hc rfl rfl (fun _ => ⟨rfl, rfl⟩) h
set_option maxRecDepth 4000 in
theorem ok_X11_note_0_p {I : pI} {J : pJ} {a1 : Int32} {a2 : Int32} {a3 : Int32} {Q : pQ} {d : Nat} (hd : 8 ≤ d) (h : zwp (f_X11_note a1 a2 a3 (I 39) (I 38) (I 40) (I 36 3) (I 7 3) (I 7 1) (I 7 0) (I 6)) (fun w => match w with | (.inl r, o0, o1, o2, o3, o4) => Q (.inl (some (.int r))) (zS 7 19 I [(6, none, o4), (36, some 3, fun _ => o3), (38, none, o1), (39, none, o0), (40, none, o2)] J []) | (.inr E, o0, o1, o2, o3, o4) => Q (.inr E) (zS 7 19 I [(6, none, o4), (36, some 3, fun _ => o3), (38, none, o1), (39, none, o0), (40, none, o2)] J []))) : pm_call M cost zext d 120 [.ref 0, .int a1, .int a2, .int a3] (pm_st 108 (shp 7 19) I J) Q := by
  obtain ⟨d, rfl⟩ := zd1 hd rfl
  have hc := pm_call_m (M := M) (cost := cost) zext_m d
  refine z_in (L := [(6, none, (I 6)), (36, some 3, fun _ => (I 36 3)), (38, none, (I 38)), (39, none, (I 39)), (40, none, (I 40))]) (K := []) (ls := [some (.ref 0), some (.int a1), some (.int a2), some (.int a3)]) zmt_120 zco_120 rfl rfl (zid_a (zid_s (zid_a (zid_a (zid_a zid_n))))) zid_n ?_
  delta f_X11_note at h
  refine g_aload_n (pc' := 1)  hc rfl rfl rfl rfl ?_
  refine g_iload_n (pc' := 2)  hc rfl rfl rfl ?_
  refine z_virt (as := [.int a1]) (a := 0) (r := []) hc rfl rfl rfl rfl sh_0 rfl zco_133 rfl rfl rfl ?_
  refine ok_X11_checkFigure_0_p (zdp hd rfl) (zwp_mono (zwp_bind h) ?_)
  rintro (⟨⟩ | E1) h
  · refine z_po (pc' := 5) (st' := []) (v := none) (L' := [(6, none, (I 6)), (36, some 3, fun _ => (I 36 3)), (38, none, (I 38)), (39, none, (I 39)), (40, none, (I 40))]) (K' := []) zco_133 rfl rfl rfl rfl rfl rfl rfl rfl ?_
    refine g_aload_n (pc' := 6)  hc rfl rfl rfl rfl ?_
    refine g_iload_n (pc' := 7)  hc rfl rfl rfl ?_
    refine z_virt (as := [.int a2]) (a := 0) (r := []) hc rfl rfl rfl rfl sh_0 rfl zco_134 rfl rfl rfl ?_
    refine ok_X11_checkCell_0_p (zdp hd rfl) (zwp_mono (zwp_bind h) ?_)
    rintro (⟨⟩ | E2) h
    · refine z_po (pc' := 10) (st' := []) (v := none) (L' := [(6, none, (I 6)), (36, some 3, fun _ => (I 36 3)), (38, none, (I 38)), (39, none, (I 39)), (40, none, (I 40))]) (K' := []) zco_134 rfl rfl rfl rfl rfl rfl rfl rfl ?_
      refine g_aload_n (pc' := 11)  hc rfl rfl rfl rfl ?_
      refine z_getR (pc' := 14)  hc rfl rfl rfl sh_0 rfl rfl ?_
      refine z_getI (pc' := 17) (v := (I 36 3)) hc rfl rfl rfl sh_36 rfl rfl rfl ?_
      refine g_bipush (pc' := 19) (v := (8 : Int32)) hc rfl zkb_8 rfl ?_
      refine g_icmp_ge (pc' := 22) hc rfl rfl (fun hx => ?_) (fun hx => ?_)
      · replace h := zwp_t h hx
        refine g_aload_n (pc' := 33)  hc rfl rfl rfl rfl ?_
        refine z_getR (pc' := 36)  hc rfl rfl rfl sh_0 rfl rfl ?_
        refine g_iconst (pc' := 37) (v := (2 : Int32)) hc rfl zki_2 rfl ?_
        refine g_dup2 (pc' := 38)  hc rfl rfl rfl rfl ?_
        refine z_iaload (pc' := 39) (v := (((I 6)) 2)) hc rfl rfl sh_6 (by decide) rfl rfl ?_
        refine g_iconst (pc' := 40) (v := (1 : Int32)) hc rfl zki_1 rfl ?_
        refine g_iadd (pc' := 41)  hc rfl rfl ?_
        refine z_iastore (pc' := 42) (g := (I 6)) (L' := [(6, none, (upd ((I 6)) 2 ((((I 6)) 2) + (1 : Int32)))), (36, some 3, fun _ => (I 36 3)), (38, none, (I 38)), (39, none, (I 39)), (40, none, (I 40))]) hc rfl rfl sh_6 (by decide) rfl rfl rfl rfl ?_
        refine g_iconst (pc' := 43) (v := (-1 : Int32)) hc rfl zki_m1 rfl ?_
        replace h := zws h
        exact g_ireturn hc rfl rfl rfl (fun _ => ⟨rfl, rfl⟩) h
      · replace h := zwp_f h hx
        refine g_iload_n (pc' := 23)  hc rfl rfl rfl ?_
        refine g_if_lt (pc' := 26) hc rfl rfl (fun hx => ?_) (fun hx => ?_)
        · replace h := zwp_t h hx
          refine g_aload_n (pc' := 33)  hc rfl rfl rfl rfl ?_
          refine z_getR (pc' := 36)  hc rfl rfl rfl sh_0 rfl rfl ?_
          refine g_iconst (pc' := 37) (v := (2 : Int32)) hc rfl zki_2 rfl ?_
          refine g_dup2 (pc' := 38)  hc rfl rfl rfl rfl ?_
          refine z_iaload (pc' := 39) (v := (((I 6)) 2)) hc rfl rfl sh_6 (by decide) rfl rfl ?_
          refine g_iconst (pc' := 40) (v := (1 : Int32)) hc rfl zki_1 rfl ?_
          refine g_iadd (pc' := 41)  hc rfl rfl ?_
          refine z_iastore (pc' := 42) (g := (I 6)) (L' := [(6, none, (upd ((I 6)) 2 ((((I 6)) 2) + (1 : Int32)))), (36, some 3, fun _ => (I 36 3)), (38, none, (I 38)), (39, none, (I 39)), (40, none, (I 40))]) hc rfl rfl sh_6 (by decide) rfl rfl rfl rfl ?_
          refine g_iconst (pc' := 43) (v := (-1 : Int32)) hc rfl zki_m1 rfl ?_
          replace h := zws h
          exact g_ireturn hc rfl rfl rfl (fun _ => ⟨rfl, rfl⟩) h
        · replace h := zwp_f h hx
          refine g_iload_n (pc' := 27)  hc rfl rfl rfl ?_
          refine g_bipush (pc' := 29) (v := (20 : Int32)) hc rfl zkb_20 rfl ?_
          refine g_icmp_le (pc' := 32) hc rfl rfl (fun hx => ?_) (fun hx => ?_)
          · replace h := zwp_t h hx
            refine g_aload_n (pc' := 45)  hc rfl rfl rfl rfl ?_
            refine z_getR (pc' := 48)  hc rfl rfl rfl sh_0 rfl rfl ?_
            refine g_iload_n (pc' := 49)  hc rfl rfl rfl ?_
            refine g_iload_n (pc' := 50)  hc rfl rfl rfl ?_
            refine g_iload_n (pc' := 51)  hc rfl rfl rfl ?_
            refine z_virt (as := [.int a1, .int a2, .int a3]) (a := 36) (r := []) hc rfl rfl rfl rfl sh_36 rfl zco_5 rfl rfl rfl ?_
            refine ok_X0_add_36 (zdp hd rfl) (zwp_mono (zwp_bind h) ?_)
            rintro ⟨o3, o4, o5, o6⟩ h
            refine z_po (pc' := 54) (st' := []) (v := none) (L' := [(6, none, (I 6)), (36, some 3, fun _ => o6), (38, none, o4), (39, none, o3), (40, none, o5)]) (K' := []) zco_5 rfl rfl rfl rfl rfl rfl rfl rfl ?_
            refine g_aload_n (pc' := 55)  hc rfl rfl rfl rfl ?_
            refine z_getR (pc' := 58)  hc rfl rfl rfl sh_0 rfl rfl ?_
            refine z_getI (pc' := 61) (v := o6) hc rfl rfl rfl sh_36 rfl rfl rfl ?_
            replace h := zws h
            exact g_ireturn hc rfl rfl rfl (fun _ => ⟨rfl, rfl⟩) h
          · replace h := zwp_f h hx
            refine g_aload_n (pc' := 33)  hc rfl rfl rfl rfl ?_
            refine z_getR (pc' := 36)  hc rfl rfl rfl sh_0 rfl rfl ?_
            refine g_iconst (pc' := 37) (v := (2 : Int32)) hc rfl zki_2 rfl ?_
            refine g_dup2 (pc' := 38)  hc rfl rfl rfl rfl ?_
            refine z_iaload (pc' := 39) (v := (((I 6)) 2)) hc rfl rfl sh_6 (by decide) rfl rfl ?_
            refine g_iconst (pc' := 40) (v := (1 : Int32)) hc rfl zki_1 rfl ?_
            refine g_iadd (pc' := 41)  hc rfl rfl ?_
            refine z_iastore (pc' := 42) (g := (I 6)) (L' := [(6, none, (upd ((I 6)) 2 ((((I 6)) 2) + (1 : Int32)))), (36, some 3, fun _ => (I 36 3)), (38, none, (I 38)), (39, none, (I 39)), (40, none, (I 40))]) hc rfl rfl sh_6 (by decide) rfl rfl rfl rfl ?_
            refine g_iconst (pc' := 43) (v := (-1 : Int32)) hc rfl zki_m1 rfl ?_
            replace h := zws h
            exact g_ireturn hc rfl rfl rfl (fun _ => ⟨rfl, rfl⟩) h
    · replace h := zws h
      exact z_pox (L' := [(6, none, (I 6)), (36, some 3, fun _ => (I 36 3)), (38, none, (I 38)), (39, none, (I 39)), (40, none, (I 40))]) (K' := []) rfl rfl rfl rfl rfl rfl rfl h
  · replace h := zws h
    exact z_pox (L' := [(6, none, (I 6)), (36, some 3, fun _ => (I 36 3)), (38, none, (I 38)), (39, none, (I 39)), (40, none, (I 40))]) (K' := []) rfl rfl rfl rfl rfl rfl rfl h
set_option maxRecDepth 4000 in
theorem ok_L_note_0_107_p {I : pI} {J : pJ} {a1 : Int32} {a2 : Int32} {a3 : Int32} {Q : pQ} {d : Nat} (hd : 9 ≤ d) (h : zwp (f_L_note a1 a2 a3 1 (J 107) (I 39) (I 38) (I 40) (I 36 3) (I 7 3) (I 7 1) (I 7 0) (I 6)) (fun w => match w with | (r, o0, o1, o2, o3, o4, o5) => Q (.inl (some (.int r))) (zS 7 19 I [(6, none, o5), (36, some 3, fun _ => o4), (38, none, o2), (39, none, o1), (40, none, o3)] J [(107, none, o0)]))) : pm_call M cost zext d 290 [.ref 0, .int a1, .int a2, .int a3, .ref 107] (pm_st 108 (shp 7 19) I J) Q := by
  obtain ⟨d, rfl⟩ := zd1 hd rfl
  have hc := pm_call_m (M := M) (cost := cost) zext_m d
  refine z_in (L := [(6, none, (I 6)), (36, some 3, fun _ => (I 36 3)), (38, none, (I 38)), (39, none, (I 39)), (40, none, (I 40))]) (K := [(107, none, (J 107))]) (ls := [some (.ref 0), some (.int a1), some (.int a2), some (.int a3), some (.ref 107), none]) zmt_290 zco_290 rfl rfl (zid_a (zid_s (zid_a (zid_a (zid_a zid_n))))) (zid_a zid_n) ?_
  delta f_L_note at h
  refine g_aload (pc' := 2)  hc rfl rfl rfl rfl ?_
  refine g_iconst (pc' := 3) (v := (0 : Int32)) hc rfl zki_0 rfl ?_
  refine g_aload_n (pc' := 4)  hc rfl rfl rfl rfl ?_
  refine g_iload_n (pc' := 5)  hc rfl rfl rfl ?_
  refine g_iload_n (pc' := 6)  hc rfl rfl rfl ?_
  refine g_iload_n (pc' := 7)  hc rfl rfl rfl ?_
  refine z_virt (as := [.int a1, .int a2, .int a3]) (a := 0) (r := [.int (0 : Int32), .ref 107]) hc rfl rfl rfl rfl sh_0 rfl zco_120 rfl rfl rfl ?_
  refine ok_X11_note_0_p (zdp hd rfl) (zwp_mono (zwp_bind h) ?_)
  rintro ⟨(r6 | E7), o1, o2, o3, o4, o5⟩ h
  · refine z_po (pc' := 10) (st' := [.int r6, .int (0 : Int32), .ref 107]) (v := (some (.int r6))) (L' := [(6, none, o5), (36, some 3, fun _ => o4), (38, none, o2), (39, none, o1), (40, none, o3)]) (K' := [(107, none, (J 107))]) zco_120 rfl rfl rfl rfl rfl rfl rfl rfl ?_
    refine g_i2l (pc' := 11)  hc rfl rfl ?_
    have hb := (zwp_bnd h).1
    replace h := (zwp_bnd h).2
    refine z_lastore (pc' := 12) (g := (J 107)) (K' := [(107, none, (vp_updL ((J 107)) (0 : Int32).toNatClampNeg r6.toInt64))]) hc rfl rfl sh_107 hb rfl rfl rfl rfl ?_
    refine g_goto hc rfl ?_
    refine g_iconst (pc' := 20) (v := (0 : Int32)) hc rfl zki_0 rfl ?_
    replace h := zws h
    exact g_ireturn hc rfl rfl rfl (fun _ => ⟨rfl, rfl⟩) h
  · by_cases hE : E7 = x_N
    · replace h := zwp_t h hE
      replace h := zws h
      exact z_poh (L' := [(6, none, o5), (36, some 3, fun _ => o4), (38, none, o2), (39, none, o1), (40, none, o3)]) (K' := [(107, none, (J 107))]) (zhd1 (e := 12) (pc := 7) rfl hE) rfl rfl rfl rfl rfl rfl rfl rfl h
    replace h := zwp_f h hE
    exact (zwn h).elim
set_option maxRecDepth 4000 in
theorem ok_X0_agrees_36_53 {p q : Nat} {I : pI} {J : pJ} {a2 : Int32} {Q : pQ} {d : Nat} (hd : 1 ≤ d) (h : zwp (f_X0_agrees a2 (I 39) (I 38) (I 40) (I 36 3) (I 54)) (fun r => Q (.inl (some (.int r))) (zS p q I [] J []))) : pm_call M cost zext d 7 [.ref 36, .ref 53, .int a2] (pm_st 108 (shp p q) I J) Q := by
  obtain ⟨d, rfl⟩ := zd1 hd rfl
  have hc := pm_call_m (M := M) (cost := cost) zext_m d
  refine z_in (L := []) (K := []) (ls := [some (.ref 36), some (.ref 53), some (.int a2), none]) zmt_7 zco_7 rfl rfl zid_n zid_n ?_
  delta f_X0_agrees at h
  refine g_iconst (pc' := 1) (v := (0 : Int32)) hc rfl zki_0 rfl ?_
  refine g_istore_n (pc' := 2) (ls1 := [some (.ref 36), some (.ref 53), some (.int a2), some (.int (0 : Int32))]) hc rfl (zlt rfl) rfl rfl ?_
  refine zjs (G := (fun (_ : Unit) => ∀ z2 : Option Value, znl z2 = true → pm_ev C_X0_agrees (d + 1) (pm_call M cost zext d) cost (false, false) 108 0 0 Q 48 [some (.ref 36), some (.ref 53), some (.int a2), z2] [] 0 0 (zS p q I [] J []))) h ?_ (fun h => ?_)
  · rintro _ h z2 hz2
    refine g_iconst (pc' := 49) (v := (1 : Int32)) hc rfl zki_1 rfl ?_
    replace h := zws h
    exact g_ireturn hc rfl rfl rfl (fun _ => ⟨rfl, rfl⟩) h
  refine zitr_ev (G := (fun (x1 : Int32) => pm_ev C_X0_agrees (d + 1) (pm_call M cost zext d) cost (false, false) 108 0 0 Q 2 [some (.ref 36), some (.ref 53), some (.int a2), some (.int x1)] [] 0 0 (zS p q I [] J []))) ?_ zFU (0 : Int32) h
  rintro x1 h
  refine g_iload_n (pc' := 3)  hc rfl rfl rfl ?_
  refine g_aload_n (pc' := 4)  hc rfl rfl rfl rfl ?_
  refine z_getI (pc' := 7) (v := (I 36 3)) hc rfl rfl rfl sh_36 rfl rfl rfl ?_
  refine g_icmp_ge (pc' := 10) hc rfl rfl (fun hx => ?_) (fun hx => ?_)
  · replace h := zwp_t h hx
    replace h := zwp_r h
    exact h (some (.int x1)) rfl
  · replace h := zwp_f h hx
    refine g_aload_n (pc' := 11)  hc rfl rfl rfl rfl ?_
    refine z_getR (pc' := 14)  hc rfl rfl rfl sh_36 rfl rfl ?_
    refine g_iload_n (pc' := 15)  hc rfl rfl rfl ?_
    have hb := (zwp_bnd h).1
    replace h := (zwp_bnd h).2
    refine z_iaload (pc' := 16) (v := (((I 40)) x1.toNatClampNeg)) hc rfl rfl sh_40 hb rfl rfl ?_
    refine g_iload_n (pc' := 17)  hc rfl rfl rfl ?_
    refine g_icmp_ne (pc' := 20) hc rfl rfl (fun hx => ?_) (fun hx => ?_)
    · replace h := zwp_f h hx
      refine g_iinc (pc' := 45) (ls1 := [some (.ref 36), some (.ref 53), some (.int a2), some (.int (x1 + (1 : Int32)))]) hc rfl rfl zki_1 (zlt rfl) rfl rfl ?_
      refine g_goto hc rfl ?_
      replace h := zwp_l h
      exact h
    · replace h := zwp_t h hx
      refine g_aload_n (pc' := 21)  hc rfl rfl rfl rfl ?_
      refine z_getR (pc' := 24)  hc rfl rfl rfl sh_53 rfl rfl ?_
      refine g_aload_n (pc' := 25)  hc rfl rfl rfl rfl ?_
      refine z_getR (pc' := 28)  hc rfl rfl rfl sh_36 rfl rfl ?_
      refine g_iload_n (pc' := 29)  hc rfl rfl rfl ?_
      have hb := (zwp_bnd h).1
      replace h := (zwp_bnd h).2
      refine z_iaload (pc' := 30) (v := (((I 38)) x1.toNatClampNeg)) hc rfl rfl sh_38 hb rfl rfl ?_
      have hb := (zwp_bnd h).1
      replace h := (zwp_bnd h).2
      refine z_iaload (pc' := 31) (v := (((I 54)) (((I 38)) x1.toNatClampNeg).toNatClampNeg)) hc rfl rfl sh_54 hb rfl rfl ?_
      refine g_aload_n (pc' := 32)  hc rfl rfl rfl rfl ?_
      refine z_getR (pc' := 35)  hc rfl rfl rfl sh_36 rfl rfl ?_
      refine g_iload_n (pc' := 36)  hc rfl rfl rfl ?_
      have hb := (zwp_bnd h).1
      replace h := (zwp_bnd h).2
      refine z_iaload (pc' := 37) (v := (((I 39)) x1.toNatClampNeg)) hc rfl rfl sh_39 hb rfl rfl ?_
      refine g_icmp_eq (pc' := 40) hc rfl rfl (fun hx => ?_) (fun hx => ?_)
      · replace h := zwp_t h hx
        refine g_iinc (pc' := 45) (ls1 := [some (.ref 36), some (.ref 53), some (.int a2), some (.int (x1 + (1 : Int32)))]) hc rfl rfl zki_1 (zlt rfl) rfl rfl ?_
        refine g_goto hc rfl ?_
        replace h := zwp_l h
        exact h
      · replace h := zwp_f h hx
        refine g_iconst (pc' := 41) (v := (0 : Int32)) hc rfl zki_0 rfl ?_
        replace h := zws h
        exact g_ireturn hc rfl rfl rfl (fun _ => ⟨rfl, rfl⟩) h
set_option maxRecDepth 4000 in
theorem ok_X1_holdsAll_65_7_53_36_51 {p q : Nat} {I : pI} {J : pJ} {Q : pQ} {d : Nat} (hd : 5 ≤ d) (h : zwp (f_X1_holdsAll (I 39) (I 38) (I 40) (I 36 3) (I 52) (I 7 12) (I 7 3) (I 15) (I 13 2) (I 14) (I 7 1) (I 18) (I 16 2) (I 17) (I 12) (I 7 9) (I 9) (I 10) (I 7 0) (I 54) (I 53 3) (I 56) (I 53 0) (I 57) (I 55) (J 53 2)) (fun w => match w with | (r, o0, o1, o2, o3, o4, o5, o6) => Q (.inl (some (.int r))) (zS p q I [(14, none, o1), (17, none, o2), (52, none, o0), (53, some 0, fun _ => o5), (54, none, o3), (55, none, o6), (56, none, o4)] J []))) : pm_call M cost zext d 10 [.ref 65, .ref 7, .ref 53, .ref 36, .ref 51] (pm_st 108 (shp p q) I J) Q := by
  obtain ⟨d, rfl⟩ := zd1 hd rfl
  have hc := pm_call_m (M := M) (cost := cost) zext_m d
  refine z_in (L := [(14, none, (I 14)), (17, none, (I 17)), (52, none, (I 52)), (53, some 0, fun _ => (I 53 0)), (54, none, (I 54)), (55, none, (I 55)), (56, none, (I 56))]) (K := []) (ls := [some (.ref 65), some (.ref 7), some (.ref 53), some (.ref 36), some (.ref 51), none]) zmt_10 zco_10 rfl rfl (zid_a (zid_a (zid_a (zid_s (zid_a (zid_a (zid_a zid_n))))))) zid_n ?_
  delta f_X1_holdsAll at h
  refine g_iconst (pc' := 1) (v := (0 : Int32)) hc rfl zki_0 rfl ?_
  refine g_istore (pc' := 3) (ls1 := [some (.ref 65), some (.ref 7), some (.ref 53), some (.ref 36), some (.ref 51), some (.int (0 : Int32))]) hc rfl (zlt rfl) rfl rfl ?_
  refine zjs (G := (fun (g : (Nat → Int32) × (Nat → Int32) × (Nat → Int32) × (Nat → Int32) × (Nat → Int32) × Int32 × (Nat → Int32)) => match g with | (y10, y11, y12, y13, y14, y15, y16) => ∀ z9 : Option Value, znl z9 = true → pm_ev C_X1_holdsAll (d + 1) (pm_call M cost zext d) cost (false, false) 108 0 0 Q 43 [some (.ref 65), some (.ref 7), some (.ref 53), some (.ref 36), some (.ref 51), z9] [] 0 0 (zS p q I [(14, none, y11), (17, none, y12), (52, none, y10), (53, some 0, fun _ => y15), (54, none, y13), (55, none, y16), (56, none, y14)] J []))) h ?_ (fun h => ?_)
  · rintro ⟨y10, y11, y12, y13, y14, y15, y16⟩ h z9 hz9
    refine g_iconst (pc' := 44) (v := (1 : Int32)) hc rfl zki_1 rfl ?_
    replace h := zws h
    exact g_ireturn hc rfl rfl rfl (fun _ => ⟨rfl, rfl⟩) h
  refine zitr_ev (G := (fun (g : Int32 × (Nat → Int32) × (Nat → Int32) × (Nat → Int32) × (Nat → Int32) × (Nat → Int32) × Int32 × (Nat → Int32)) => match g with | (x1, x2, x3, x4, x5, x6, x7, x8) => pm_ev C_X1_holdsAll (d + 1) (pm_call M cost zext d) cost (false, false) 108 0 0 Q 3 [some (.ref 65), some (.ref 7), some (.ref 53), some (.ref 36), some (.ref 51), some (.int x1)] [] 0 0 (zS p q I [(14, none, x3), (17, none, x4), (52, none, x2), (53, some 0, fun _ => x7), (54, none, x5), (55, none, x8), (56, none, x6)] J []))) ?_ zFU ((0 : Int32), (I 52), (I 14), (I 17), (I 54), (I 56), (I 53 0), (I 55)) h
  rintro ⟨x1, x2, x3, x4, x5, x6, x7, x8⟩ h
  refine g_iload (pc' := 5)  hc rfl rfl rfl ?_
  refine g_bipush (pc' := 7) (v := (20 : Int32)) hc rfl zkb_20 rfl ?_
  refine g_icmp_gt (pc' := 10) hc rfl rfl (fun hx => ?_) (fun hx => ?_)
  · replace h := zwp_t h hx
    replace h := zwp_r h
    exact h (some (.int x1)) rfl
  · replace h := zwp_f h hx
    refine g_aload_n (pc' := 11)  hc rfl rfl rfl rfl ?_
    refine g_aload_n (pc' := 12)  hc rfl rfl rfl rfl ?_
    refine g_iload (pc' := 14)  hc rfl rfl rfl ?_
    refine z_virt (as := [.ref 53, .int x1]) (a := 36) (r := []) hc rfl rfl rfl rfl sh_36 rfl zco_7 rfl rfl rfl ?_
    refine ok_X0_agrees_36_53 (zdp hd rfl) (zwp_mono (zwp_bind h) ?_)
    rintro r17 h
    refine z_po (pc' := 17) (st' := [.int r17]) (v := (some (.int r17))) (L' := [(14, none, x3), (17, none, x4), (52, none, x2), (53, some 0, fun _ => x7), (54, none, x5), (55, none, x8), (56, none, x6)]) (K' := []) zco_7 rfl rfl rfl rfl rfl rfl rfl rfl ?_
    refine g_if_ne (pc' := 20) hc rfl rfl (fun hx => ?_) (fun hx => ?_)
    · replace h := zwp_f h hx
      refine g_aload (pc' := 24)  hc rfl rfl rfl rfl ?_
      refine g_aload_n (pc' := 25)  hc rfl rfl rfl rfl ?_
      refine g_aload_n (pc' := 26)  hc rfl rfl rfl rfl ?_
      refine g_aload_n (pc' := 27)  hc rfl rfl rfl rfl ?_
      refine g_aload_n (pc' := 28)  hc rfl rfl rfl rfl ?_
      refine z_getI (pc' := 31) (v := x7) hc rfl rfl rfl sh_53 rfl rfl rfl ?_
      refine z_virt (as := [.int x7]) (a := 7) (r := [.ref 53, .ref 7, .ref 51]) hc rfl rfl rfl rfl sh_7 rfl zco_23 rfl rfl rfl ?_
      refine ok_X3_isDull_7 (zdp hd rfl) (zwp_mono (zwp_bind h) ?_)
      rintro r18 h
      refine z_po (pc' := 34) (st' := [.int r18, .ref 53, .ref 7, .ref 51]) (v := (some (.int r18))) (L' := [(14, none, x3), (17, none, x4), (52, none, x2), (53, some 0, fun _ => x7), (54, none, x5), (55, none, x8), (56, none, x6)]) (K' := []) zco_23 rfl rfl rfl rfl rfl rfl rfl rfl ?_
      refine z_virt (as := [.ref 7, .ref 53, .int r18]) (a := 51) (r := []) hc rfl rfl rfl rfl sh_51 rfl zco_14 rfl rfl rfl ?_
      refine ok_X2_passHour_51_7_53 (zdp hd rfl) (zwp_mono (zwp_bind h) ?_)
      rintro ⟨o19, o20, o21, o22, o23, o24, o25⟩ h
      refine z_po (pc' := 37) (st' := []) (v := none) (L' := [(14, none, o19), (17, none, o20), (52, none, o25), (53, some 0, fun _ => o23), (54, none, o21), (55, none, o24), (56, none, o22)]) (K' := []) zco_14 rfl rfl rfl rfl rfl rfl rfl rfl ?_
      refine g_iinc (pc' := 40) (ls1 := [some (.ref 65), some (.ref 7), some (.ref 53), some (.ref 36), some (.ref 51), some (.int (x1 + (1 : Int32)))]) hc rfl rfl zki_1 (zlt rfl) rfl rfl ?_
      refine g_goto hc rfl ?_
      replace h := zwp_l h
      exact h
    · replace h := zwp_t h hx
      refine g_iconst (pc' := 21) (v := (0 : Int32)) hc rfl zki_0 rfl ?_
      replace h := zws h
      exact g_ireturn hc rfl rfl rfl (fun _ => ⟨rfl, rfl⟩) h
theorem z_alenL {C : pC} {d : Nat} {call : pCall} {cost : Nat → Nat × Nat × Bool × Bool} {ak : Bool × Bool} {nxe mc ms : Nat} {Q : pQ} {pc tg pc' : Nat} {ls : pL} {st : List Value} {uc us : Nat} {p q : Nat} {I : pI} {L : List zE} {J : pJ} {K : List zF} {a n : Nat} {v : Int32} (hc : ∀ j as S (Q Q' : pQ), (∀ o S, Q o S → Q' o S) → call j as S Q → call j as S Q') (hpc : pc_in C pc = some (.arraylength, tg)) (ha : Nat.blt a 108 = true) (hs : shp p q a = .inr (1, n)) (hv : Int32.ofNat n = v) (hp : pc + 1 = pc') (k : pm_ev C d call cost ak nxe mc ms Q pc' ls (.int v :: st) uc us (zS p q I L J K)) : pm_ev C d call cost ak nxe mc ms Q pc ls (.ref a :: st) uc us (zS p q I L J K) := by
  refine pm_go hc ?_
  unfold pm_step
  rw [hpc]
  subst hp
  show pm_an (zS p q I L J K) a _
  refine ⟨zlt ha, ?_⟩
  have e : (zS p q I L J K).2 a = .inl (1, n, .inr (zov J K a)) := st_l hs
  rw [e]
  refine ⟨rfl, ?_⟩
  subst hv
  exact k
set_option maxRecDepth 4000 in
theorem ok_J7_fill_d0a16_71 {p q : Nat} {I : pI} {J : pJ} {a1 : Int64} {Q : pQ} {d : Nat} (hd : 1 ≤ d) (h : zwp (f_J7_fill_d0a16 a1 8 (J 71)) (fun o0 => Q (.inl none) (zS p q I [] J [(71, none, o0)]))) : pm_call M cost zext d 267 [.ref 71, .long a1] (pm_st 108 (shp p q) I J) Q := by
  obtain ⟨d, rfl⟩ := zd1 hd rfl
  have hc := pm_call_m (M := M) (cost := cost) zext_m d
  refine z_in (L := []) (K := [(71, none, (J 71))]) (ls := [some (.ref 71), some (.long a1), none, none, none]) zmt_267 zco_267 rfl rfl zid_n (zid_a zid_n) ?_
  delta f_J7_fill_d0a16 at h
  refine g_iconst (pc' := 1) (v := (0 : Int32)) hc rfl zki_0 rfl ?_
  refine g_istore_n (pc' := 2) (ls1 := [some (.ref 71), some (.long a1), none, some (.int (0 : Int32)), none]) hc rfl (zlt rfl) rfl rfl ?_
  refine g_aload_n (pc' := 3)  hc rfl rfl rfl rfl ?_
  refine z_alenL (pc' := 4) (v := (Int32.ofNat 8)) hc rfl rfl sh_71 rfl rfl ?_
  refine g_istore (pc' := 6) (ls1 := [some (.ref 71), some (.long a1), none, some (.int (0 : Int32)), some (.int (Int32.ofNat 8))]) hc rfl (zlt rfl) rfl rfl ?_
  refine zjn (G := (fun (y4 : (Nat → Int64)) => ∀ z3 : Option Value, znl z3 = true → pm_ev C_J7_fill_d0a16 (d + 1) (pm_call M cost zext d) cost (false, false) 108 0 0 Q 22 [some (.ref 71), some (.long a1), none, z3, some (.int (Int32.ofNat 8))] [] 0 0 (zS p q I [] J [(71, none, y4)]))) (zwp_bind h) ?_ (fun h => ?_)
  · rintro y4 h z3 hz3
    replace h := zws h
    exact g_return hc rfl rfl (fun _ => ⟨rfl, rfl⟩) h
  refine zitr_ev (G := (fun (g : Int32 × (Nat → Int64)) => match g with | (x1, x2) => pm_ev C_J7_fill_d0a16 (d + 1) (pm_call M cost zext d) cost (false, false) 108 0 0 Q 6 [some (.ref 71), some (.long a1), none, some (.int x1), some (.int (Int32.ofNat 8))] [] 0 0 (zS p q I [] J [(71, none, x2)]))) ?_ zFU ((0 : Int32), (J 71)) h
  rintro ⟨x1, x2⟩ h
  refine g_iload_n (pc' := 7)  hc rfl rfl rfl ?_
  refine g_iload (pc' := 9)  hc rfl rfl rfl ?_
  refine g_icmp_ge (pc' := 12) hc rfl rfl (fun hx => ?_) (fun hx => ?_)
  · replace h := zwp_t h hx
    replace h := zwp_r h
    exact h (some (.int x1)) rfl
  · replace h := zwp_f h hx
    refine g_aload_n (pc' := 13)  hc rfl rfl rfl rfl ?_
    refine g_iload_n (pc' := 14)  hc rfl rfl rfl ?_
    refine g_lload_n (pc' := 15)  hc rfl rfl rfl ?_
    have hb := (zwp_bnd h).1
    replace h := (zwp_bnd h).2
    refine z_lastore (pc' := 16) (g := x2) (K' := [(71, none, (vp_updL x2 x1.toNatClampNeg a1))]) hc rfl rfl sh_71 hb rfl rfl rfl rfl ?_
    refine g_iinc (pc' := 19) (ls1 := [some (.ref 71), some (.long a1), none, some (.int (x1 + (1 : Int32))), some (.int (Int32.ofNat 8))]) hc rfl rfl zki_1 (zlt rfl) rfl rfl ?_
    refine g_goto hc rfl ?_
    replace h := zwp_l h
    exact h
set_option maxRecDepth 4000 in
theorem ok_X8_copyFrom_66_31 {p q : Nat} {I : pI} {J : pJ} {Q : pQ} {d : Nat} (hd : 3 ≤ d) (h : zwp (f_X8_copyFrom (I 67) (I 66 3) (I 69) (I 66 0) (I 70) (I 66 1) (I 68) (I 32) (I 31 3) (I 34) (I 31 0) (I 35) (I 31 1) (I 33) (J 31 2) (J 66 2)) (fun w => match w with | (o0, o1, o2, o3, o4, o5, o6, o7) => Q (.inl none) (zS p q I [(66, some 0, fun _ => o3), (66, some 1, fun _ => o5), (66, some 3, fun _ => o1), (67, none, o0), (68, none, o6), (69, none, o2), (70, none, o4)] J [(66, some 2, fun _ => o7)]))) : pm_call M cost zext d 68 [.ref 66, .ref 31] (pm_st 108 (shp p q) I J) Q := by
  obtain ⟨d, rfl⟩ := zd1 hd rfl
  have hc := pm_call_m (M := M) (cost := cost) zext_m d
  refine z_in (L := [(66, some 0, fun _ => (I 66 0)), (66, some 1, fun _ => (I 66 1)), (66, some 3, fun _ => (I 66 3)), (67, none, (I 67)), (68, none, (I 68)), (69, none, (I 69)), (70, none, (I 70))]) (K := [(66, some 2, fun _ => (J 66 2))]) (ls := [some (.ref 66), some (.ref 31)]) zmt_68 zco_68 rfl rfl (zid_s (zid_s (zid_s (zid_a (zid_a (zid_a (zid_a zid_n))))))) (zid_s zid_n) ?_
  delta f_X8_copyFrom at h
  refine g_aload_n (pc' := 1)  hc rfl rfl rfl rfl ?_
  refine g_aload_n (pc' := 2)  hc rfl rfl rfl rfl ?_
  refine z_getI (pc' := 5) (v := (I 31 0)) hc rfl rfl rfl sh_31 rfl rfl rfl ?_
  refine z_putI (pc' := 8) (L' := [(66, some 0, fun _ => (I 31 0)), (66, some 1, fun _ => (I 66 1)), (66, some 3, fun _ => (I 66 3)), (67, none, (I 67)), (68, none, (I 68)), (69, none, (I 69)), (70, none, (I 70))]) hc rfl rfl rfl sh_66 rfl zft_8_0 rfl (fun h => Bool.noConfusion h) rfl rfl rfl ?_
  refine g_aload_n (pc' := 9)  hc rfl rfl rfl rfl ?_
  refine g_aload_n (pc' := 10)  hc rfl rfl rfl rfl ?_
  refine z_getI (pc' := 13) (v := (I 31 1)) hc rfl rfl rfl sh_31 rfl rfl rfl ?_
  refine z_putI (pc' := 16) (L' := [(66, some 0, fun _ => (I 31 0)), (66, some 1, fun _ => (I 31 1)), (66, some 3, fun _ => (I 66 3)), (67, none, (I 67)), (68, none, (I 68)), (69, none, (I 69)), (70, none, (I 70))]) hc rfl rfl rfl sh_66 rfl zft_8_1 rfl (fun h => Bool.noConfusion h) rfl rfl rfl ?_
  refine g_aload_n (pc' := 17)  hc rfl rfl rfl rfl ?_
  refine g_aload_n (pc' := 18)  hc rfl rfl rfl rfl ?_
  refine z_getJ (pc' := 21) (v := (J 31 2)) hc rfl rfl rfl sh_31 rfl rfl rfl ?_
  refine z_putJ (pc' := 24) (K' := [(66, some 2, fun _ => (J 31 2))]) hc rfl rfl rfl sh_66 rfl zft_8_2 (fun h => Bool.noConfusion h) rfl rfl rfl ?_
  refine g_aload_n (pc' := 25)  hc rfl rfl rfl rfl ?_
  refine g_aload_n (pc' := 26)  hc rfl rfl rfl rfl ?_
  refine z_getI (pc' := 29) (v := (I 31 3)) hc rfl rfl rfl sh_31 rfl rfl rfl ?_
  refine z_putI (pc' := 32) (L' := [(66, some 0, fun _ => (I 31 0)), (66, some 1, fun _ => (I 31 1)), (66, some 3, fun _ => (I 31 3)), (67, none, (I 67)), (68, none, (I 68)), (69, none, (I 69)), (70, none, (I 70))]) hc rfl rfl rfl sh_66 rfl zft_8_3 rfl (fun h => Bool.noConfusion h) rfl rfl rfl ?_
  refine g_aload_n (pc' := 33)  hc rfl rfl rfl rfl ?_
  refine z_getR (pc' := 36)  hc rfl rfl rfl sh_31 rfl rfl ?_
  refine g_iconst (pc' := 37) (v := (0 : Int32)) hc rfl zki_0 rfl ?_
  refine g_aload_n (pc' := 38)  hc rfl rfl rfl rfl ?_
  refine z_getR (pc' := 41)  hc rfl rfl rfl sh_66 rfl rfl ?_
  refine g_iconst (pc' := 42) (v := (0 : Int32)) hc rfl zki_0 rfl ?_
  refine g_bipush (pc' := 44) (v := (8 : Int32)) hc rfl zkb_8 rfl ?_
  refine z_acpy (pc' := 47) (f := (I 32)) (g := (I 67)) (L' := [(66, some 0, fun _ => (I 31 0)), (66, some 1, fun _ => (I 31 1)), (66, some 3, fun _ => (I 31 3)), (67, none, (va_cpy ((I 32)) ((I 67)) 0 0 8)), (68, none, (I 68)), (69, none, (I 69)), (70, none, (I 70))]) hc rfl rfl (zdq hd rfl) rfl sh_32 rfl sh_67 (by decide) rfl rfl rfl rfl rfl rfl ?_
  refine g_aload_n (pc' := 48)  hc rfl rfl rfl rfl ?_
  refine z_getR (pc' := 51)  hc rfl rfl rfl sh_31 rfl rfl ?_
  refine g_iconst (pc' := 52) (v := (0 : Int32)) hc rfl zki_0 rfl ?_
  refine g_aload_n (pc' := 53)  hc rfl rfl rfl rfl ?_
  refine z_getR (pc' := 56)  hc rfl rfl rfl sh_66 rfl rfl ?_
  refine g_iconst (pc' := 57) (v := (0 : Int32)) hc rfl zki_0 rfl ?_
  refine g_bipush (pc' := 59) (v := (8 : Int32)) hc rfl zkb_8 rfl ?_
  refine z_acpy (pc' := 62) (f := (I 33)) (g := (I 68)) (L' := [(66, some 0, fun _ => (I 31 0)), (66, some 1, fun _ => (I 31 1)), (66, some 3, fun _ => (I 31 3)), (67, none, (va_cpy ((I 32)) ((I 67)) 0 0 8)), (68, none, (va_cpy ((I 33)) ((I 68)) 0 0 8)), (69, none, (I 69)), (70, none, (I 70))]) hc rfl rfl (zdq hd rfl) rfl sh_33 rfl sh_68 (by decide) rfl rfl rfl rfl rfl rfl ?_
  refine g_aload_n (pc' := 63)  hc rfl rfl rfl rfl ?_
  refine z_getR (pc' := 66)  hc rfl rfl rfl sh_31 rfl rfl ?_
  refine g_iconst (pc' := 67) (v := (0 : Int32)) hc rfl zki_0 rfl ?_
  refine g_aload_n (pc' := 68)  hc rfl rfl rfl rfl ?_
  refine z_getR (pc' := 71)  hc rfl rfl rfl sh_66 rfl rfl ?_
  refine g_iconst (pc' := 72) (v := (0 : Int32)) hc rfl zki_0 rfl ?_
  refine g_bipush (pc' := 74) (v := (8 : Int32)) hc rfl zkb_8 rfl ?_
  refine z_acpy (pc' := 77) (f := (I 34)) (g := (I 69)) (L' := [(66, some 0, fun _ => (I 31 0)), (66, some 1, fun _ => (I 31 1)), (66, some 3, fun _ => (I 31 3)), (67, none, (va_cpy ((I 32)) ((I 67)) 0 0 8)), (68, none, (va_cpy ((I 33)) ((I 68)) 0 0 8)), (69, none, (va_cpy ((I 34)) ((I 69)) 0 0 8)), (70, none, (I 70))]) hc rfl rfl (zdq hd rfl) rfl sh_34 rfl sh_69 (by decide) rfl rfl rfl rfl rfl rfl ?_
  refine g_aload_n (pc' := 78)  hc rfl rfl rfl rfl ?_
  refine z_getR (pc' := 81)  hc rfl rfl rfl sh_31 rfl rfl ?_
  refine g_iconst (pc' := 82) (v := (0 : Int32)) hc rfl zki_0 rfl ?_
  refine g_aload_n (pc' := 83)  hc rfl rfl rfl rfl ?_
  refine z_getR (pc' := 86)  hc rfl rfl rfl sh_66 rfl rfl ?_
  refine g_iconst (pc' := 87) (v := (0 : Int32)) hc rfl zki_0 rfl ?_
  refine g_bipush (pc' := 89) (v := (8 : Int32)) hc rfl zkb_8 rfl ?_
  refine z_acpy (pc' := 92) (f := (I 35)) (g := (I 70)) (L' := [(66, some 0, fun _ => (I 31 0)), (66, some 1, fun _ => (I 31 1)), (66, some 3, fun _ => (I 31 3)), (67, none, (va_cpy ((I 32)) ((I 67)) 0 0 8)), (68, none, (va_cpy ((I 33)) ((I 68)) 0 0 8)), (69, none, (va_cpy ((I 34)) ((I 69)) 0 0 8)), (70, none, (va_cpy ((I 35)) ((I 70)) 0 0 8))]) hc rfl rfl (zdq hd rfl) rfl sh_35 rfl sh_70 (by decide) rfl rfl rfl rfl rfl rfl ?_
  replace h := zws h
  exact g_return hc rfl rfl (fun _ => ⟨rfl, rfl⟩) h
set_option maxRecDepth 4000 in
theorem ok_X0_agrees_36_66 {p q : Nat} {I : pI} {J : pJ} {a2 : Int32} {Q : pQ} {d : Nat} (hd : 1 ≤ d) (h : zwp (f_X0_agrees a2 (I 39) (I 38) (I 40) (I 36 3) (I 67)) (fun r => Q (.inl (some (.int r))) (zS p q I [] J []))) : pm_call M cost zext d 7 [.ref 36, .ref 66, .int a2] (pm_st 108 (shp p q) I J) Q := by
  obtain ⟨d, rfl⟩ := zd1 hd rfl
  have hc := pm_call_m (M := M) (cost := cost) zext_m d
  refine z_in (L := []) (K := []) (ls := [some (.ref 36), some (.ref 66), some (.int a2), none]) zmt_7 zco_7 rfl rfl zid_n zid_n ?_
  delta f_X0_agrees at h
  refine g_iconst (pc' := 1) (v := (0 : Int32)) hc rfl zki_0 rfl ?_
  refine g_istore_n (pc' := 2) (ls1 := [some (.ref 36), some (.ref 66), some (.int a2), some (.int (0 : Int32))]) hc rfl (zlt rfl) rfl rfl ?_
  refine zjs (G := (fun (_ : Unit) => ∀ z2 : Option Value, znl z2 = true → pm_ev C_X0_agrees (d + 1) (pm_call M cost zext d) cost (false, false) 108 0 0 Q 48 [some (.ref 36), some (.ref 66), some (.int a2), z2] [] 0 0 (zS p q I [] J []))) h ?_ (fun h => ?_)
  · rintro _ h z2 hz2
    refine g_iconst (pc' := 49) (v := (1 : Int32)) hc rfl zki_1 rfl ?_
    replace h := zws h
    exact g_ireturn hc rfl rfl rfl (fun _ => ⟨rfl, rfl⟩) h
  refine zitr_ev (G := (fun (x1 : Int32) => pm_ev C_X0_agrees (d + 1) (pm_call M cost zext d) cost (false, false) 108 0 0 Q 2 [some (.ref 36), some (.ref 66), some (.int a2), some (.int x1)] [] 0 0 (zS p q I [] J []))) ?_ zFU (0 : Int32) h
  rintro x1 h
  refine g_iload_n (pc' := 3)  hc rfl rfl rfl ?_
  refine g_aload_n (pc' := 4)  hc rfl rfl rfl rfl ?_
  refine z_getI (pc' := 7) (v := (I 36 3)) hc rfl rfl rfl sh_36 rfl rfl rfl ?_
  refine g_icmp_ge (pc' := 10) hc rfl rfl (fun hx => ?_) (fun hx => ?_)
  · replace h := zwp_t h hx
    replace h := zwp_r h
    exact h (some (.int x1)) rfl
  · replace h := zwp_f h hx
    refine g_aload_n (pc' := 11)  hc rfl rfl rfl rfl ?_
    refine z_getR (pc' := 14)  hc rfl rfl rfl sh_36 rfl rfl ?_
    refine g_iload_n (pc' := 15)  hc rfl rfl rfl ?_
    have hb := (zwp_bnd h).1
    replace h := (zwp_bnd h).2
    refine z_iaload (pc' := 16) (v := (((I 40)) x1.toNatClampNeg)) hc rfl rfl sh_40 hb rfl rfl ?_
    refine g_iload_n (pc' := 17)  hc rfl rfl rfl ?_
    refine g_icmp_ne (pc' := 20) hc rfl rfl (fun hx => ?_) (fun hx => ?_)
    · replace h := zwp_f h hx
      refine g_iinc (pc' := 45) (ls1 := [some (.ref 36), some (.ref 66), some (.int a2), some (.int (x1 + (1 : Int32)))]) hc rfl rfl zki_1 (zlt rfl) rfl rfl ?_
      refine g_goto hc rfl ?_
      replace h := zwp_l h
      exact h
    · replace h := zwp_t h hx
      refine g_aload_n (pc' := 21)  hc rfl rfl rfl rfl ?_
      refine z_getR (pc' := 24)  hc rfl rfl rfl sh_66 rfl rfl ?_
      refine g_aload_n (pc' := 25)  hc rfl rfl rfl rfl ?_
      refine z_getR (pc' := 28)  hc rfl rfl rfl sh_36 rfl rfl ?_
      refine g_iload_n (pc' := 29)  hc rfl rfl rfl ?_
      have hb := (zwp_bnd h).1
      replace h := (zwp_bnd h).2
      refine z_iaload (pc' := 30) (v := (((I 38)) x1.toNatClampNeg)) hc rfl rfl sh_38 hb rfl rfl ?_
      have hb := (zwp_bnd h).1
      replace h := (zwp_bnd h).2
      refine z_iaload (pc' := 31) (v := (((I 67)) (((I 38)) x1.toNatClampNeg).toNatClampNeg)) hc rfl rfl sh_67 hb rfl rfl ?_
      refine g_aload_n (pc' := 32)  hc rfl rfl rfl rfl ?_
      refine z_getR (pc' := 35)  hc rfl rfl rfl sh_36 rfl rfl ?_
      refine g_iload_n (pc' := 36)  hc rfl rfl rfl ?_
      have hb := (zwp_bnd h).1
      replace h := (zwp_bnd h).2
      refine z_iaload (pc' := 37) (v := (((I 39)) x1.toNatClampNeg)) hc rfl rfl sh_39 hb rfl rfl ?_
      refine g_icmp_eq (pc' := 40) hc rfl rfl (fun hx => ?_) (fun hx => ?_)
      · replace h := zwp_t h hx
        refine g_iinc (pc' := 45) (ls1 := [some (.ref 36), some (.ref 66), some (.int a2), some (.int (x1 + (1 : Int32)))]) hc rfl rfl zki_1 (zlt rfl) rfl rfl ?_
        refine g_goto hc rfl ?_
        replace h := zwp_l h
        exact h
      · replace h := zwp_f h hx
        refine g_iconst (pc' := 41) (v := (0 : Int32)) hc rfl zki_0 rfl ?_
        replace h := zws h
        exact g_ireturn hc rfl rfl rfl (fun _ => ⟨rfl, rfl⟩) h
set_option maxRecDepth 4000 in
theorem ok_X8_othersWith_66 {p q : Nat} {I : pI} {J : pJ} {a1 : Int32} {Q : pQ} {d : Nat} (hd : 1 ≤ d) (h : zwp (f_X8_othersWith a1 (I 67) (I 66 3)) (fun r => Q (.inl (some (.int r))) (zS p q I [] J []))) : pm_call M cost zext d 73 [.ref 66, .int a1] (pm_st 108 (shp p q) I J) Q := by
  obtain ⟨d, rfl⟩ := zd1 hd rfl
  have hc := pm_call_m (M := M) (cost := cost) zext_m d
  refine z_in (L := []) (K := []) (ls := [some (.ref 66), some (.int a1), none, none]) zmt_73 zco_73 rfl rfl zid_n zid_n ?_
  delta f_X8_othersWith at h
  refine g_iconst (pc' := 1) (v := (-1 : Int32)) hc rfl zki_m1 rfl ?_
  refine g_istore_n (pc' := 2) (ls1 := [some (.ref 66), some (.int a1), some (.int (-1 : Int32)), none]) hc rfl (zlt rfl) rfl rfl ?_
  refine g_iconst (pc' := 3) (v := (0 : Int32)) hc rfl zki_0 rfl ?_
  refine g_istore_n (pc' := 4) (ls1 := [some (.ref 66), some (.int a1), some (.int (-1 : Int32)), some (.int (0 : Int32))]) hc rfl (zlt rfl) rfl rfl ?_
  refine zjn (G := (fun (y3 : Int32) => ∀ z4 : Option Value, znl z4 = true → pm_ev C_X8_othersWith (d + 1) (pm_call M cost zext d) cost (false, false) 108 0 0 Q 41 [some (.ref 66), some (.int a1), some (.int y3), z4] [] 0 0 (zS p q I [] J []))) (zwp_bind h) ?_ (fun h => ?_)
  · rintro y3 h z4 hz4
    refine g_iload_n (pc' := 42)  hc rfl rfl rfl ?_
    replace h := zws h
    exact g_ireturn hc rfl rfl rfl (fun _ => ⟨rfl, rfl⟩) h
  refine zitr_ev (G := (fun (g : Int32 × Int32) => match g with | (x1, x2) => pm_ev C_X8_othersWith (d + 1) (pm_call M cost zext d) cost (false, false) 108 0 0 Q 4 [some (.ref 66), some (.int a1), some (.int x1), some (.int x2)] [] 0 0 (zS p q I [] J []))) ?_ zFU ((-1 : Int32), (0 : Int32)) h
  rintro ⟨x1, x2⟩ h
  refine g_iload_n (pc' := 5)  hc rfl rfl rfl ?_
  refine g_aload_n (pc' := 6)  hc rfl rfl rfl rfl ?_
  refine z_getI (pc' := 9) (v := (I 66 3)) hc rfl rfl rfl sh_66 rfl rfl rfl ?_
  refine g_icmp_ge (pc' := 12) hc rfl rfl (fun hx => ?_) (fun hx => ?_)
  · replace h := zwp_t h hx
    replace h := zwp_r h
    exact h (some (.int x2)) rfl
  · replace h := zwp_f h hx
    refine g_iload_n (pc' := 13)  hc rfl rfl rfl ?_
    refine g_aload_n (pc' := 14)  hc rfl rfl rfl rfl ?_
    refine z_getR (pc' := 17)  hc rfl rfl rfl sh_66 rfl rfl ?_
    refine g_iload_n (pc' := 18)  hc rfl rfl rfl ?_
    have hb := (zwp_bnd h).1
    replace h := (zwp_bnd h).2
    refine z_iaload (pc' := 19) (v := (((I 67)) x2.toNatClampNeg)) hc rfl rfl sh_67 hb rfl rfl ?_
    refine g_aload_n (pc' := 20)  hc rfl rfl rfl rfl ?_
    refine z_getR (pc' := 23)  hc rfl rfl rfl sh_66 rfl rfl ?_
    refine g_iload_n (pc' := 24)  hc rfl rfl rfl ?_
    have hb := (zwp_bnd h).1
    replace h := (zwp_bnd h).2
    refine z_iaload (pc' := 25) (v := (((I 67)) a1.toNatClampNeg)) hc rfl rfl sh_67 hb rfl rfl ?_
    refine zjn (G := (fun (j5 : Int32) => pm_ev C_X8_othersWith (d + 1) (pm_call M cost zext d) cost (false, false) 108 0 0 Q 33 [some (.ref 66), some (.int a1), some (.int x1), some (.int x2)] [.int j5, .int x1] 0 0 (zS p q I [] J []))) (zwp_bind h) ?_ (fun h => ?_)
    · rintro j5 h
      refine g_iadd (pc' := 34)  hc rfl rfl ?_
      refine g_istore_n (pc' := 35) (ls1 := [some (.ref 66), some (.int a1), some (.int (x1 + j5)), some (.int x2)]) hc rfl (zlt rfl) rfl rfl ?_
      refine g_iinc (pc' := 38) (ls1 := [some (.ref 66), some (.int a1), some (.int (x1 + j5)), some (.int (x2 + (1 : Int32)))]) hc rfl rfl zki_1 (zlt rfl) rfl rfl ?_
      refine g_goto hc rfl ?_
      replace h := zwp_l h
      exact h
    refine g_icmp_ne (pc' := 28) hc rfl rfl (fun hx => ?_) (fun hx => ?_)
    · replace h := zwp_f h hx
      refine g_iconst (pc' := 33) (v := (0 : Int32)) hc rfl zki_0 rfl ?_
      replace h := zws h
      exact h
    · replace h := zwp_t h hx
      refine g_iconst (pc' := 29) (v := (1 : Int32)) hc rfl zki_1 rfl ?_
      refine g_goto hc rfl ?_
      replace h := zws h
      exact h
set_option maxRecDepth 4000 in
theorem ok_X2_setValues_51_7_66 {p q : Nat} {I : pI} {J : pJ} {a3 : Int32} {Q : pQ} {d : Nat} (hd : 2 ≤ d) (h : zwp (f_X2_setValues a3 (I 12) (I 7 9) (I 9) (I 10) (I 67) (I 66 3) (I 69) (I 66 0) (I 70) (I 68) (I 52)) (fun o0 => Q (.inl none) (zS p q I [(52, none, o0)] J []))) : pm_call M cost zext d 18 [.ref 51, .ref 7, .ref 66, .int a3] (pm_st 108 (shp p q) I J) Q := by
  obtain ⟨d, rfl⟩ := zd1 hd rfl
  have hc := pm_call_m (M := M) (cost := cost) zext_m d
  refine z_in (L := [(52, none, (I 52))]) (K := []) (ls := [some (.ref 51), some (.ref 7), some (.ref 66), some (.int a3)]) zmt_18 zco_18 rfl rfl (zid_a zid_n) zid_n ?_
  delta f_X2_setValues at h
  refine g_aload_n (pc' := 1)  hc rfl rfl rfl rfl ?_
  refine z_getR (pc' := 4)  hc rfl rfl rfl sh_51 rfl rfl ?_
  refine g_iconst (pc' := 5) (v := (0 : Int32)) hc rfl zki_0 rfl ?_
  refine g_aload_n (pc' := 6)  hc rfl rfl rfl rfl ?_
  refine z_getR (pc' := 9)  hc rfl rfl rfl sh_66 rfl rfl ?_
  refine g_iload_n (pc' := 10)  hc rfl rfl rfl ?_
  have hb := (zwp_bnd h).1
  replace h := (zwp_bnd h).2
  refine z_iaload (pc' := 11) (v := (((I 68)) a3.toNatClampNeg)) hc rfl rfl sh_68 hb rfl rfl ?_
  refine z_iastore (pc' := 12) (g := (I 52)) (L' := [(52, none, (upd ((I 52)) 0 (((I 68)) a3.toNatClampNeg)))]) hc rfl rfl sh_52 (by decide) rfl rfl rfl rfl ?_
  refine g_aload_n (pc' := 13)  hc rfl rfl rfl rfl ?_
  refine z_getR (pc' := 16)  hc rfl rfl rfl sh_51 rfl rfl ?_
  refine g_iconst (pc' := 17) (v := (1 : Int32)) hc rfl zki_1 rfl ?_
  refine g_aload_n (pc' := 18)  hc rfl rfl rfl rfl ?_
  refine g_aload_n (pc' := 19)  hc rfl rfl rfl rfl ?_
  refine z_getI (pc' := 22) (v := (I 66 0)) hc rfl rfl rfl sh_66 rfl rfl rfl ?_
  refine z_virt (as := [.int (I 66 0)]) (a := 7) (r := [.int (1 : Int32), .ref 52]) hc rfl rfl rfl rfl sh_7 rfl zco_22 rfl rfl rfl ?_
  refine ok_X3_lightOf_7 (zdp hd rfl) (zwp_mono (zwp_bind h) ?_)
  rintro r1 h
  refine z_po (pc' := 25) (st' := [.int r1, .int (1 : Int32), .ref 52]) (v := (some (.int r1))) (L' := [(52, none, (upd ((I 52)) 0 (((I 68)) a3.toNatClampNeg)))]) (K' := []) zco_22 rfl rfl rfl rfl rfl rfl rfl rfl ?_
  refine z_iastore (pc' := 26) (g := (upd ((I 52)) 0 (((I 68)) a3.toNatClampNeg))) (L' := [(52, none, (upd (upd ((I 52)) 0 (((I 68)) a3.toNatClampNeg)) 1 r1))]) hc rfl rfl sh_52 (by decide) rfl rfl rfl rfl ?_
  refine g_aload_n (pc' := 27)  hc rfl rfl rfl rfl ?_
  refine z_getR (pc' := 30)  hc rfl rfl rfl sh_51 rfl rfl ?_
  refine g_iconst (pc' := 31) (v := (2 : Int32)) hc rfl zki_2 rfl ?_
  refine g_aload_n (pc' := 32)  hc rfl rfl rfl rfl ?_
  refine g_iload_n (pc' := 33)  hc rfl rfl rfl ?_
  refine z_virt (as := [.int a3]) (a := 66) (r := [.int (2 : Int32), .ref 52]) hc rfl rfl rfl rfl sh_66 rfl zco_73 rfl rfl rfl ?_
  refine ok_X8_othersWith_66 (zdp hd rfl) (zwp_mono (zwp_bind h) ?_)
  rintro r2 h
  refine z_po (pc' := 36) (st' := [.int r2, .int (2 : Int32), .ref 52]) (v := (some (.int r2))) (L' := [(52, none, (upd (upd ((I 52)) 0 (((I 68)) a3.toNatClampNeg)) 1 r1))]) (K' := []) zco_73 rfl rfl rfl rfl rfl rfl rfl rfl ?_
  refine z_iastore (pc' := 37) (g := (upd (upd ((I 52)) 0 (((I 68)) a3.toNatClampNeg)) 1 r1)) (L' := [(52, none, (upd (upd (upd ((I 52)) 0 (((I 68)) a3.toNatClampNeg)) 1 r1) 2 r2))]) hc rfl rfl sh_52 (by decide) rfl rfl rfl rfl ?_
  refine g_aload_n (pc' := 38)  hc rfl rfl rfl rfl ?_
  refine z_getR (pc' := 41)  hc rfl rfl rfl sh_51 rfl rfl ?_
  refine g_iconst (pc' := 42) (v := (3 : Int32)) hc rfl zki_3 rfl ?_
  refine g_aload_n (pc' := 43)  hc rfl rfl rfl rfl ?_
  refine z_getI (pc' := 46) (v := (I 66 0)) hc rfl rfl rfl sh_66 rfl rfl rfl ?_
  refine z_iastore (pc' := 47) (g := (upd (upd (upd ((I 52)) 0 (((I 68)) a3.toNatClampNeg)) 1 r1) 2 r2)) (L' := [(52, none, (upd (upd (upd (upd ((I 52)) 0 (((I 68)) a3.toNatClampNeg)) 1 r1) 2 r2) 3 ((I 66 0))))]) hc rfl rfl sh_52 (by decide) rfl rfl rfl rfl ?_
  refine g_aload_n (pc' := 48)  hc rfl rfl rfl rfl ?_
  refine z_getR (pc' := 51)  hc rfl rfl rfl sh_51 rfl rfl ?_
  refine g_iconst (pc' := 52) (v := (4 : Int32)) hc rfl zki_4 rfl ?_
  refine g_aload_n (pc' := 53)  hc rfl rfl rfl rfl ?_
  refine g_iload_n (pc' := 54)  hc rfl rfl rfl ?_
  refine g_aload_n (pc' := 55)  hc rfl rfl rfl rfl ?_
  refine z_getI (pc' := 58) (v := (I 66 0)) hc rfl rfl rfl sh_66 rfl rfl rfl ?_
  refine g_aload_n (pc' := 59)  hc rfl rfl rfl rfl ?_
  refine z_getR (pc' := 62)  hc rfl rfl rfl sh_66 rfl rfl ?_
  refine g_iload_n (pc' := 63)  hc rfl rfl rfl ?_
  have hb := (zwp_bnd h).1
  replace h := (zwp_bnd h).2
  refine z_iaload (pc' := 64) (v := (((I 70)) a3.toNatClampNeg)) hc rfl rfl sh_70 hb rfl rfl ?_
  refine g_iadd (pc' := 65)  hc rfl rfl ?_
  refine z_virt (as := [.int a3, .int (((I 66 0)) + (((I 70)) a3.toNatClampNeg))]) (a := 7) (r := [.int (4 : Int32), .ref 52]) hc rfl rfl rfl rfl sh_7 rfl zco_24 rfl rfl rfl ?_
  refine ok_X3_stepOf_7 (zdp hd rfl) (zwp_mono (zwp_bind h) ?_)
  rintro r3 h
  refine z_po (pc' := 68) (st' := [.int r3, .int (4 : Int32), .ref 52]) (v := (some (.int r3))) (L' := [(52, none, (upd (upd (upd (upd ((I 52)) 0 (((I 68)) a3.toNatClampNeg)) 1 r1) 2 r2) 3 ((I 66 0))))]) (K' := []) zco_24 rfl rfl rfl rfl rfl rfl rfl rfl ?_
  refine z_iastore (pc' := 69) (g := (upd (upd (upd (upd ((I 52)) 0 (((I 68)) a3.toNatClampNeg)) 1 r1) 2 r2) 3 ((I 66 0)))) (L' := [(52, none, (upd (upd (upd (upd (upd ((I 52)) 0 (((I 68)) a3.toNatClampNeg)) 1 r1) 2 r2) 3 ((I 66 0))) 4 r3))]) hc rfl rfl sh_52 (by decide) rfl rfl rfl rfl ?_
  refine g_aload_n (pc' := 70)  hc rfl rfl rfl rfl ?_
  refine z_getR (pc' := 73)  hc rfl rfl rfl sh_51 rfl rfl ?_
  refine g_iconst (pc' := 74) (v := (5 : Int32)) hc rfl zki_5 rfl ?_
  refine g_aload_n (pc' := 75)  hc rfl rfl rfl rfl ?_
  refine z_getR (pc' := 78)  hc rfl rfl rfl sh_66 rfl rfl ?_
  refine g_iload_n (pc' := 79)  hc rfl rfl rfl ?_
  have hb := (zwp_bnd h).1
  replace h := (zwp_bnd h).2
  refine z_iaload (pc' := 80) (v := (((I 69)) a3.toNatClampNeg)) hc rfl rfl sh_69 hb rfl rfl ?_
  refine z_iastore (pc' := 81) (g := (upd (upd (upd (upd (upd ((I 52)) 0 (((I 68)) a3.toNatClampNeg)) 1 r1) 2 r2) 3 ((I 66 0))) 4 r3)) (L' := [(52, none, (upd (upd (upd (upd (upd (upd ((I 52)) 0 (((I 68)) a3.toNatClampNeg)) 1 r1) 2 r2) 3 ((I 66 0))) 4 r3) 5 (((I 69)) a3.toNatClampNeg)))]) hc rfl rfl sh_52 (by decide) rfl rfl rfl rfl ?_
  replace h := zws h
  exact g_return hc rfl rfl (fun _ => ⟨rfl, rfl⟩) h
set_option maxRecDepth 4000 in
theorem ok_X2_hurt_51_7_66 {p q : Nat} {I : pI} {J : pJ} {a3 : Int32} {Q : pQ} {d : Nat} (hd : 3 ≤ d) (h : zwp (f_X2_hurt a3 (I 18) (I 16 2) (I 17) (I 12) (I 7 9) (I 9) (I 10) (I 67) (I 66 3) (I 69) (I 66 0) (I 70) (I 68) (I 52)) (fun w => match w with | (o0, o1, o2) => Q (.inl none) (zS p q I [(17, none, o0), (52, none, o2), (68, none, o1)] J []))) : pm_call M cost zext d 15 [.ref 51, .ref 7, .ref 66, .int a3] (pm_st 108 (shp p q) I J) Q := by
  obtain ⟨d, rfl⟩ := zd1 hd rfl
  have hc := pm_call_m (M := M) (cost := cost) zext_m d
  refine z_in (L := [(17, none, (I 17)), (52, none, (I 52)), (68, none, (I 68))]) (K := []) (ls := [some (.ref 51), some (.ref 7), some (.ref 66), some (.int a3), none]) zmt_15 zco_15 rfl rfl (zid_a (zid_a (zid_a zid_n))) zid_n ?_
  delta f_X2_hurt at h
  refine g_iconst (pc' := 1) (v := (1 : Int32)) hc rfl zki_1 rfl ?_
  refine g_istore (pc' := 3) (ls1 := [some (.ref 51), some (.ref 7), some (.ref 66), some (.int a3), some (.int (1 : Int32))]) hc rfl (zlt rfl) rfl rfl ?_
  refine g_aload_n (pc' := 4)  hc rfl rfl rfl rfl ?_
  refine z_getR (pc' := 7)  hc rfl rfl rfl sh_7 rfl rfl ?_
  refine z_virt (as := []) (a := 16) (r := []) hc rfl rfl rfl rfl sh_16 rfl zco_43 rfl rfl rfl ?_
  refine ok_X5_isTold_16 (zdp hd rfl) (zwp_mono (zwp_bind h) ?_)
  rintro r1 h
  refine z_po (pc' := 10) (st' := [.int r1]) (v := (some (.int r1))) (L' := [(17, none, (I 17)), (52, none, (I 52)), (68, none, (I 68))]) (K' := []) zco_43 rfl rfl rfl rfl rfl rfl rfl rfl ?_
  refine zjn (G := (fun (g : Int32 × (Nat → Int32) × (Nat → Int32)) => match g with | (j2, j3, j4) => pm_ev C_X2_hurt (d + 1) (pm_call M cost zext d) cost (false, false) 108 0 0 Q 42 [some (.ref 51), some (.ref 7), some (.ref 66), some (.int a3), some (.int j2)] [] 0 0 (zS p q I [(17, none, j3), (52, none, j4), (68, none, (I 68))] J []))) (zwp_bind h) ?_ (fun h => ?_)
  · rintro ⟨j2, j3, j4⟩ h
    refine g_aload_n (pc' := 43)  hc rfl rfl rfl rfl ?_
    refine z_getR (pc' := 46)  hc rfl rfl rfl sh_66 rfl rfl ?_
    refine g_iload_n (pc' := 47)  hc rfl rfl rfl ?_
    refine g_bipush (pc' := 49) (v := (99 : Int32)) hc rfl zkb_99 rfl ?_
    refine g_aload_n (pc' := 50)  hc rfl rfl rfl rfl ?_
    refine z_getR (pc' := 53)  hc rfl rfl rfl sh_66 rfl rfl ?_
    refine g_iload_n (pc' := 54)  hc rfl rfl rfl ?_
    have hb := (zwp_bnd h).1
    replace h := (zwp_bnd h).2
    refine z_iaload (pc' := 55) (v := (((I 68)) a3.toNatClampNeg)) hc rfl rfl sh_68 hb rfl rfl ?_
    refine g_iload (pc' := 57)  hc rfl rfl rfl ?_
    refine g_iadd (pc' := 58)  hc rfl rfl ?_
    refine z_min (pc' := 61)  hc rfl rfl (zdq hd rfl) rfl rfl ?_
    have hb := (zwp_bnd h).1
    replace h := (zwp_bnd h).2
    refine z_iastore (pc' := 62) (g := (I 68)) (L' := [(17, none, j3), (52, none, j4), (68, none, (upd ((I 68)) a3.toNatClampNeg (if ((((I 68)) a3.toNatClampNeg) + j2) < (99 : Int32) then ((((I 68)) a3.toNatClampNeg) + j2) else (99 : Int32))))]) hc rfl rfl sh_68 hb rfl rfl rfl rfl ?_
    replace h := zws h
    exact g_return hc rfl rfl (fun _ => ⟨rfl, rfl⟩) h
  refine g_if_eq (pc' := 13) hc rfl rfl (fun hx => ?_) (fun hx => ?_)
  · replace h := zwp_t h hx
    replace h := zws h
    exact h
  · replace h := zwp_f h hx
    refine g_aload_n (pc' := 14)  hc rfl rfl rfl rfl ?_
    refine g_aload_n (pc' := 15)  hc rfl rfl rfl rfl ?_
    refine g_aload_n (pc' := 16)  hc rfl rfl rfl rfl ?_
    refine g_iload_n (pc' := 17)  hc rfl rfl rfl ?_
    refine z_virt (as := [.ref 7, .ref 66, .int a3]) (a := 51) (r := []) hc rfl rfl rfl rfl sh_51 rfl zco_18 rfl rfl rfl ?_
    refine ok_X2_setValues_51_7_66 (zdp hd rfl) (zwp_mono (zwp_bind h) ?_)
    rintro o5 h
    refine z_po (pc' := 20) (st' := []) (v := none) (L' := [(17, none, (I 17)), (52, none, o5), (68, none, (I 68))]) (K' := []) zco_18 rfl rfl rfl rfl rfl rfl rfl rfl ?_
    refine g_iconst (pc' := 21) (v := (0 : Int32)) hc rfl zki_0 rfl ?_
    refine g_bipush (pc' := 23) (v := (9 : Int32)) hc rfl zkb_9 rfl ?_
    refine g_aload_n (pc' := 24)  hc rfl rfl rfl rfl ?_
    refine z_getR (pc' := 27)  hc rfl rfl rfl sh_7 rfl rfl ?_
    refine g_aload_n (pc' := 28)  hc rfl rfl rfl rfl ?_
    refine z_getR (pc' := 31)  hc rfl rfl rfl sh_51 rfl rfl ?_
    refine z_virt (as := [.ref 52]) (a := 16) (r := [.int (9 : Int32), .int (0 : Int32)]) hc rfl rfl rfl rfl sh_16 rfl zco_45 rfl rfl rfl ?_
    refine ok_X5_value_16_52 (zdp hd rfl) (zwp_mono (zwp_bind h) ?_)
    rintro ⟨r7, o6⟩ h
    refine z_po (pc' := 34) (st' := [.int r7, .int (9 : Int32), .int (0 : Int32)]) (v := (some (.int r7))) (L' := [(17, none, o6), (52, none, o5), (68, none, (I 68))]) (K' := []) zco_45 rfl rfl rfl rfl rfl rfl rfl rfl ?_
    refine z_min (pc' := 37)  hc rfl rfl (zdq hd rfl) rfl rfl ?_
    refine z_max (pc' := 40)  hc rfl rfl (zdq hd rfl) rfl rfl ?_
    refine g_istore (pc' := 42) (ls1 := [some (.ref 51), some (.ref 7), some (.ref 66), some (.int a3), some (.int (if (0 : Int32) < (if r7 < (9 : Int32) then r7 else (9 : Int32)) then (if r7 < (9 : Int32) then r7 else (9 : Int32)) else (0 : Int32)))]) hc rfl (zlt rfl) rfl rfl ?_
    replace h := zws h
    exact h
set_option maxRecDepth 4000 in
theorem ok_X2_wantsToGo_51_7_66 {p q : Nat} {I : pI} {J : pJ} {a3 : Int32} {Q : pQ} {d : Nat} (hd : 3 ≤ d) (h : zwp (f_X2_wantsToGo a3 (I 15) (I 13 2) (I 14) (I 12) (I 7 9) (I 9) (I 10) (I 67) (I 66 3) (I 69) (I 66 0) (I 70) (I 68) (I 52)) (fun w => match w with | (r, o0, o1) => Q (.inl (some (.int r))) (zS p q I [(14, none, o0), (52, none, o1)] J []))) : pm_call M cost zext d 16 [.ref 51, .ref 7, .ref 66, .int a3] (pm_st 108 (shp p q) I J) Q := by
  obtain ⟨d, rfl⟩ := zd1 hd rfl
  have hc := pm_call_m (M := M) (cost := cost) zext_m d
  refine z_in (L := [(14, none, (I 14)), (52, none, (I 52))]) (K := []) (ls := [some (.ref 51), some (.ref 7), some (.ref 66), some (.int a3)]) zmt_16 zco_16 rfl rfl (zid_a (zid_a zid_n)) zid_n ?_
  delta f_X2_wantsToGo at h
  refine g_aload_n (pc' := 1)  hc rfl rfl rfl rfl ?_
  refine z_getR (pc' := 4)  hc rfl rfl rfl sh_7 rfl rfl ?_
  refine z_virt (as := []) (a := 13) (r := []) hc rfl rfl rfl rfl sh_13 rfl zco_43 rfl rfl rfl ?_
  refine ok_X5_isTold_13 (zdp hd rfl) (zwp_mono (zwp_bind h) ?_)
  rintro r1 h
  refine z_po (pc' := 7) (st' := [.int r1]) (v := (some (.int r1))) (L' := [(14, none, (I 14)), (52, none, (I 52))]) (K' := []) zco_43 rfl rfl rfl rfl rfl rfl rfl rfl ?_
  refine g_if_ne (pc' := 10) hc rfl rfl (fun hx => ?_) (fun hx => ?_)
  · replace h := zwp_f h hx
    refine g_aload_n (pc' := 28)  hc rfl rfl rfl rfl ?_
    refine g_aload_n (pc' := 29)  hc rfl rfl rfl rfl ?_
    refine g_aload_n (pc' := 30)  hc rfl rfl rfl rfl ?_
    refine g_iload_n (pc' := 31)  hc rfl rfl rfl ?_
    refine z_virt (as := [.ref 7, .ref 66, .int a3]) (a := 51) (r := []) hc rfl rfl rfl rfl sh_51 rfl zco_18 rfl rfl rfl ?_
    refine ok_X2_setValues_51_7_66 (zdp hd rfl) (zwp_mono (zwp_bind h) ?_)
    rintro o2 h
    refine z_po (pc' := 34) (st' := []) (v := none) (L' := [(14, none, (I 14)), (52, none, o2)]) (K' := []) zco_18 rfl rfl rfl rfl rfl rfl rfl rfl ?_
    refine g_aload_n (pc' := 35)  hc rfl rfl rfl rfl ?_
    refine z_getR (pc' := 38)  hc rfl rfl rfl sh_7 rfl rfl ?_
    refine g_aload_n (pc' := 39)  hc rfl rfl rfl rfl ?_
    refine z_getR (pc' := 42)  hc rfl rfl rfl sh_51 rfl rfl ?_
    refine z_virt (as := [.ref 52]) (a := 13) (r := []) hc rfl rfl rfl rfl sh_13 rfl zco_45 rfl rfl rfl ?_
    refine ok_X5_value_13_52 (zdp hd rfl) (zwp_mono (zwp_bind h) ?_)
    rintro ⟨r4, o3⟩ h
    refine z_po (pc' := 45) (st' := [.int r4]) (v := (some (.int r4))) (L' := [(14, none, o3), (52, none, o2)]) (K' := []) zco_45 rfl rfl rfl rfl rfl rfl rfl rfl ?_
    refine g_if_le (pc' := 48) hc rfl rfl (fun hx => ?_) (fun hx => ?_)
    · replace h := zwp_t h hx
      refine g_iconst (pc' := 53) (v := (0 : Int32)) hc rfl zki_0 rfl ?_
      replace h := zws h
      exact g_ireturn hc rfl rfl rfl (fun _ => ⟨rfl, rfl⟩) h
    · replace h := zwp_f h hx
      refine g_iconst (pc' := 49) (v := (1 : Int32)) hc rfl zki_1 rfl ?_
      refine g_goto hc rfl ?_
      replace h := zws h
      exact g_ireturn hc rfl rfl rfl (fun _ => ⟨rfl, rfl⟩) h
  · replace h := zwp_t h hx
    refine g_aload_n (pc' := 11)  hc rfl rfl rfl rfl ?_
    refine z_getR (pc' := 14)  hc rfl rfl rfl sh_66 rfl rfl ?_
    refine g_iload_n (pc' := 15)  hc rfl rfl rfl ?_
    have hb := (zwp_bnd h).1
    replace h := (zwp_bnd h).2
    refine z_iaload (pc' := 16) (v := (((I 68)) a3.toNatClampNeg)) hc rfl rfl sh_68 hb rfl rfl ?_
    refine g_bipush (pc' := 18) (v := (10 : Int32)) hc rfl zkb_10 rfl ?_
    refine g_icmp_ge (pc' := 21) hc rfl rfl (fun hx => ?_) (fun hx => ?_)
    · replace h := zwp_t h hx
      refine g_iconst (pc' := 26) (v := (0 : Int32)) hc rfl zki_0 rfl ?_
      replace h := zws h
      exact g_ireturn hc rfl rfl rfl (fun _ => ⟨rfl, rfl⟩) h
    · replace h := zwp_f h hx
      refine g_iconst (pc' := 22) (v := (1 : Int32)) hc rfl zki_1 rfl ?_
      refine g_goto hc rfl ?_
      replace h := zws h
      exact g_ireturn hc rfl rfl rfl (fun _ => ⟨rfl, rfl⟩) h
set_option maxRecDepth 4000 in
theorem ok_X8_isWall_66 {p q : Nat} {I : pI} {J : pJ} {a1 : Int32} {Q : pQ} {d : Nat} (hd : 1 ≤ d) (h : zwp (f_X8_isWall a1 (J 66 2)) (fun r => Q (.inl (some (.int r))) (zS p q I [] J []))) : pm_call M cost zext d 71 [.ref 66, .int a1] (pm_st 108 (shp p q) I J) Q := by
  obtain ⟨d, rfl⟩ := zd1 hd rfl
  have hc := pm_call_m (M := M) (cost := cost) zext_m d
  refine z_in (L := []) (K := []) (ls := [some (.ref 66), some (.int a1)]) zmt_71 zco_71 rfl rfl zid_n zid_n ?_
  delta f_X8_isWall at h
  refine g_aload_n (pc' := 1)  hc rfl rfl rfl rfl ?_
  refine z_getJ (pc' := 4) (v := (J 66 2)) hc rfl rfl rfl sh_66 rfl rfl rfl ?_
  refine g_iload_n (pc' := 5)  hc rfl rfl rfl ?_
  refine g_lushr (pc' := 6)  hc rfl rfl ?_
  refine g_lconst (pc' := 7) (v := (1 : Int64)) hc rfl zkl_1 rfl ?_
  refine g_land (pc' := 8)  hc rfl rfl ?_
  refine g_lconst (pc' := 9) (v := (0 : Int64)) hc rfl zkl_0 rfl ?_
  refine g_lcmp (pc' := 10)  hc rfl rfl ?_
  refine g_if_eq (pc' := 13) hc rfl rfl (fun hx => ?_) (fun hx => ?_)
  · replace h := zwp_t h hx
    refine g_iconst (pc' := 18) (v := (0 : Int32)) hc rfl zki_0 rfl ?_
    replace h := zws h
    exact g_ireturn hc rfl rfl rfl (fun _ => ⟨rfl, rfl⟩) h
  · replace h := zwp_f h hx
    refine g_iconst (pc' := 14) (v := (1 : Int32)) hc rfl zki_1 rfl ?_
    refine g_goto hc rfl ?_
    replace h := zws h
    exact g_ireturn hc rfl rfl rfl (fun _ => ⟨rfl, rfl⟩) h
set_option maxRecDepth 4000 in
theorem ok_X2_go_51_7_66 {p q : Nat} {I : pI} {J : pJ} {a3 : Int32} {Q : pQ} {d : Nat} (hd : 3 ≤ d) (h : zwp (f_X2_go a3 (I 7 1) (I 9) (I 10) (I 7 0) (I 67) (I 66 0) (I 70) (J 66 2)) (fun o0 => Q (.inl none) (zS p q I [(67, none, o0)] J []))) : pm_call M cost zext d 17 [.ref 51, .ref 7, .ref 66, .int a3] (pm_st 108 (shp p q) I J) Q := by
  obtain ⟨d, rfl⟩ := zd1 hd rfl
  have hc := pm_call_m (M := M) (cost := cost) zext_m d
  refine z_in (L := [(67, none, (I 67))]) (K := []) (ls := [some (.ref 51), some (.ref 7), some (.ref 66), some (.int a3), none]) zmt_17 zco_17 rfl rfl (zid_a zid_n) zid_n ?_
  delta f_X2_go at h
  refine g_aload_n (pc' := 1)  hc rfl rfl rfl rfl ?_
  refine g_aload_n (pc' := 2)  hc rfl rfl rfl rfl ?_
  refine z_getR (pc' := 5)  hc rfl rfl rfl sh_66 rfl rfl ?_
  refine g_iload_n (pc' := 6)  hc rfl rfl rfl ?_
  have hb := (zwp_bnd h).1
  replace h := (zwp_bnd h).2
  refine z_iaload (pc' := 7) (v := (((I 67)) a3.toNatClampNeg)) hc rfl rfl sh_67 hb rfl rfl ?_
  refine g_aload_n (pc' := 8)  hc rfl rfl rfl rfl ?_
  refine g_iload_n (pc' := 9)  hc rfl rfl rfl ?_
  refine g_aload_n (pc' := 10)  hc rfl rfl rfl rfl ?_
  refine z_getI (pc' := 13) (v := (I 66 0)) hc rfl rfl rfl sh_66 rfl rfl rfl ?_
  refine g_aload_n (pc' := 14)  hc rfl rfl rfl rfl ?_
  refine z_getR (pc' := 17)  hc rfl rfl rfl sh_66 rfl rfl ?_
  refine g_iload_n (pc' := 18)  hc rfl rfl rfl ?_
  have hb := (zwp_bnd h).1
  replace h := (zwp_bnd h).2
  refine z_iaload (pc' := 19) (v := (((I 70)) a3.toNatClampNeg)) hc rfl rfl sh_70 hb rfl rfl ?_
  refine g_iadd (pc' := 20)  hc rfl rfl ?_
  refine z_virt (as := [.int a3, .int (((I 66 0)) + (((I 70)) a3.toNatClampNeg))]) (a := 7) (r := [.int (((I 67)) a3.toNatClampNeg), .ref 7]) hc rfl rfl rfl rfl sh_7 rfl zco_24 rfl rfl rfl ?_
  refine ok_X3_stepOf_7 (zdp hd rfl) (zwp_mono (zwp_bind h) ?_)
  rintro r1 h
  refine z_po (pc' := 23) (st' := [.int r1, .int (((I 67)) a3.toNatClampNeg), .ref 7]) (v := (some (.int r1))) (L' := [(67, none, (I 67))]) (K' := []) zco_24 rfl rfl rfl rfl rfl rfl rfl rfl ?_
  refine z_virt (as := [.int (((I 67)) a3.toNatClampNeg), .int r1]) (a := 7) (r := []) hc rfl rfl rfl rfl sh_7 rfl zco_28 rfl rfl rfl ?_
  refine ok_X3_beside_7 (zdp hd rfl) (zwp_mono (zwp_bind h) ?_)
  rintro r2 h
  refine z_po (pc' := 26) (st' := [.int r2]) (v := (some (.int r2))) (L' := [(67, none, (I 67))]) (K' := []) zco_28 rfl rfl rfl rfl rfl rfl rfl rfl ?_
  refine g_istore (pc' := 28) (ls1 := [some (.ref 51), some (.ref 7), some (.ref 66), some (.int a3), some (.int r2)]) hc rfl (zlt rfl) rfl rfl ?_
  refine g_iload (pc' := 30)  hc rfl rfl rfl ?_
  refine g_iconst (pc' := 31) (v := (-1 : Int32)) hc rfl zki_m1 rfl ?_
  refine g_icmp_eq (pc' := 34) hc rfl rfl (fun hx => ?_) (fun hx => ?_)
  · replace h := zwp_t h hx
    replace h := zws h
    exact g_return hc rfl rfl (fun _ => ⟨rfl, rfl⟩) h
  · replace h := zwp_f h hx
    refine g_aload_n (pc' := 35)  hc rfl rfl rfl rfl ?_
    refine g_iload (pc' := 37)  hc rfl rfl rfl ?_
    refine z_virt (as := [.int r2]) (a := 66) (r := []) hc rfl rfl rfl rfl sh_66 rfl zco_71 rfl rfl rfl ?_
    refine ok_X8_isWall_66 (zdp hd rfl) (zwp_mono (zwp_bind h) ?_)
    rintro r3 h
    refine z_po (pc' := 40) (st' := [.int r3]) (v := (some (.int r3))) (L' := [(67, none, (I 67))]) (K' := []) zco_71 rfl rfl rfl rfl rfl rfl rfl rfl ?_
    refine g_if_ne (pc' := 43) hc rfl rfl (fun hx => ?_) (fun hx => ?_)
    · replace h := zwp_f h hx
      replace h := zws h
      exact g_return hc rfl rfl (fun _ => ⟨rfl, rfl⟩) h
    · replace h := zwp_t h hx
      refine g_aload_n (pc' := 44)  hc rfl rfl rfl rfl ?_
      refine z_getR (pc' := 47)  hc rfl rfl rfl sh_66 rfl rfl ?_
      refine g_iload_n (pc' := 48)  hc rfl rfl rfl ?_
      refine g_iload (pc' := 50)  hc rfl rfl rfl ?_
      have hb := (zwp_bnd h).1
      replace h := (zwp_bnd h).2
      refine z_iastore (pc' := 51) (g := (I 67)) (L' := [(67, none, (upd ((I 67)) a3.toNatClampNeg r2))]) hc rfl rfl sh_67 hb rfl rfl rfl rfl ?_
      replace h := zws h
      exact g_return hc rfl rfl (fun _ => ⟨rfl, rfl⟩) h
set_option maxRecDepth 4000 in
theorem ok_X2_passHour_51_7_66 {p q : Nat} {I : pI} {J : pJ} {a3 : Int32} {Q : pQ} {d : Nat} (hd : 4 ≤ d) (h : zwp (f_X2_passHour a3 (I 7 3) (I 15) (I 13 2) (I 14) (I 7 1) (I 18) (I 16 2) (I 17) (I 12) (I 7 9) (I 9) (I 10) (I 7 0) (I 67) (I 66 3) (I 69) (I 66 0) (I 70) (I 68) (J 66 2) (I 52)) (fun w => match w with | (o0, o1, o2, o3, o4, o5, o6) => Q (.inl none) (zS p q I [(14, none, o0), (17, none, o1), (52, none, o6), (66, some 0, fun _ => o4), (67, none, o2), (68, none, o5), (69, none, o3)] J []))) : pm_call M cost zext d 14 [.ref 51, .ref 7, .ref 66, .int a3] (pm_st 108 (shp p q) I J) Q := by
  obtain ⟨d, rfl⟩ := zd1 hd rfl
  have hc := pm_call_m (M := M) (cost := cost) zext_m d
  refine z_in (L := [(14, none, (I 14)), (17, none, (I 17)), (52, none, (I 52)), (66, some 0, fun _ => (I 66 0)), (67, none, (I 67)), (68, none, (I 68)), (69, none, (I 69))]) (K := []) (ls := [some (.ref 51), some (.ref 7), some (.ref 66), some (.int a3), none]) zmt_14 zco_14 rfl rfl (zid_a (zid_a (zid_a (zid_s (zid_a (zid_a (zid_a zid_n))))))) zid_n ?_
  delta f_X2_passHour at h
  refine g_iconst (pc' := 1) (v := (0 : Int32)) hc rfl zki_0 rfl ?_
  refine g_istore (pc' := 3) (ls1 := [some (.ref 51), some (.ref 7), some (.ref 66), some (.int a3), some (.int (0 : Int32))]) hc rfl (zlt rfl) rfl rfl ?_
  refine zjn (G := (fun (g : (Nat → Int32) × (Nat → Int32) × (Nat → Int32) × (Nat → Int32) × (Nat → Int32)) => match g with | (y8, y9, y10, y11, y12) => ∀ z7 : Option Value, znl z7 = true → pm_ev C_X2_passHour (d + 1) (pm_call M cost zext d) cost (false, false) 108 0 0 Q 62 [some (.ref 51), some (.ref 7), some (.ref 66), some (.int a3), z7] [] 0 0 (zS p q I [(14, none, y8), (17, none, y9), (52, none, y12), (66, some 0, fun _ => (I 66 0)), (67, none, y10), (68, none, y11), (69, none, (I 69))] J []))) (zwp_bind h) ?_ (fun h => ?_)
  · rintro ⟨y8, y9, y10, y11, y12⟩ h z7 hz7
    refine g_iconst (pc' := 63) (v := (0 : Int32)) hc rfl zki_0 rfl ?_
    refine g_istore (pc' := 65) (ls1 := [some (.ref 51), some (.ref 7), some (.ref 66), some (.int a3), some (.int (0 : Int32))]) hc rfl (zlt rfl) rfl rfl ?_
    refine zjn (G := (fun (y16 : (Nat → Int32)) => ∀ z15 : Option Value, znl z15 = true → pm_ev C_X2_passHour (d + 1) (pm_call M cost zext d) cost (false, false) 108 0 0 Q 100 [some (.ref 51), some (.ref 7), some (.ref 66), some (.int a3), z15] [] 0 0 (zS p q I [(14, none, y8), (17, none, y9), (52, none, y12), (66, some 0, fun _ => (I 66 0)), (67, none, y10), (68, none, y11), (69, none, y16)] J []))) (zwp_bind h) ?_ (fun h => ?_)
    · rintro y16 h z15 hz15
      refine g_aload_n (pc' := 101)  hc rfl rfl rfl rfl ?_
      refine g_dup (pc' := 102)  hc rfl rfl rfl ?_
      refine z_getI (pc' := 105) (v := (I 66 0)) hc rfl rfl rfl sh_66 rfl rfl rfl ?_
      refine g_iconst (pc' := 106) (v := (1 : Int32)) hc rfl zki_1 rfl ?_
      refine g_iadd (pc' := 107)  hc rfl rfl ?_
      refine z_putI (pc' := 110) (L' := [(14, none, y8), (17, none, y9), (52, none, y12), (66, some 0, fun _ => (((I 66 0)) + (1 : Int32))), (67, none, y10), (68, none, y11), (69, none, y16)]) hc rfl rfl rfl sh_66 rfl zft_8_0 rfl (fun h => Bool.noConfusion h) rfl rfl rfl ?_
      replace h := zws h
      exact g_return hc rfl rfl (fun _ => ⟨rfl, rfl⟩) h
    refine zitr_ev (G := (fun (g : Int32 × (Nat → Int32)) => match g with | (x13, x14) => pm_ev C_X2_passHour (d + 1) (pm_call M cost zext d) cost (false, false) 108 0 0 Q 65 [some (.ref 51), some (.ref 7), some (.ref 66), some (.int a3), some (.int x13)] [] 0 0 (zS p q I [(14, none, y8), (17, none, y9), (52, none, y12), (66, some 0, fun _ => (I 66 0)), (67, none, y10), (68, none, y11), (69, none, x14)] J []))) ?_ zFU ((0 : Int32), (I 69)) h
    rintro ⟨x13, x14⟩ h
    refine g_iload (pc' := 67)  hc rfl rfl rfl ?_
    refine g_aload_n (pc' := 68)  hc rfl rfl rfl rfl ?_
    refine z_getI (pc' := 71) (v := (I 7 3)) hc rfl rfl rfl sh_7 rfl rfl rfl ?_
    refine g_icmp_ge (pc' := 74) hc rfl rfl (fun hx => ?_) (fun hx => ?_)
    · replace h := zwp_t h hx
      replace h := zwp_r h
      exact h (some (.int x13)) rfl
    · replace h := zwp_f h hx
      refine g_aload_n (pc' := 75)  hc rfl rfl rfl rfl ?_
      refine z_getR (pc' := 78)  hc rfl rfl rfl sh_66 rfl rfl ?_
      refine g_iload (pc' := 80)  hc rfl rfl rfl ?_
      refine g_iconst (pc' := 81) (v := (0 : Int32)) hc rfl zki_0 rfl ?_
      refine g_aload_n (pc' := 82)  hc rfl rfl rfl rfl ?_
      refine z_getR (pc' := 85)  hc rfl rfl rfl sh_66 rfl rfl ?_
      refine g_iload (pc' := 87)  hc rfl rfl rfl ?_
      have hb := (zwp_bnd h).1
      replace h := (zwp_bnd h).2
      refine z_iaload (pc' := 88) (v := (x14 x13.toNatClampNeg)) hc rfl rfl sh_69 hb rfl rfl ?_
      refine g_iconst (pc' := 89) (v := (1 : Int32)) hc rfl zki_1 rfl ?_
      refine g_isub (pc' := 90)  hc rfl rfl ?_
      refine z_max (pc' := 93)  hc rfl rfl (zdq hd rfl) rfl rfl ?_
      have hb := (zwp_bnd h).1
      replace h := (zwp_bnd h).2
      refine z_iastore (pc' := 94) (g := x14) (L' := [(14, none, y8), (17, none, y9), (52, none, y12), (66, some 0, fun _ => (I 66 0)), (67, none, y10), (68, none, y11), (69, none, (upd x14 x13.toNatClampNeg (if (0 : Int32) < ((x14 x13.toNatClampNeg) - (1 : Int32)) then ((x14 x13.toNatClampNeg) - (1 : Int32)) else (0 : Int32))))]) hc rfl rfl sh_69 hb rfl rfl rfl rfl ?_
      refine g_iinc (pc' := 97) (ls1 := [some (.ref 51), some (.ref 7), some (.ref 66), some (.int a3), some (.int (x13 + (1 : Int32)))]) hc rfl rfl zki_1 (zlt rfl) rfl rfl ?_
      refine g_goto hc rfl ?_
      replace h := zwp_l h
      exact h
  refine zitr_ev (G := (fun (g : Int32 × (Nat → Int32) × (Nat → Int32) × (Nat → Int32) × (Nat → Int32) × (Nat → Int32)) => match g with | (x1, x2, x3, x4, x5, x6) => pm_ev C_X2_passHour (d + 1) (pm_call M cost zext d) cost (false, false) 108 0 0 Q 3 [some (.ref 51), some (.ref 7), some (.ref 66), some (.int a3), some (.int x1)] [] 0 0 (zS p q I [(14, none, x2), (17, none, x3), (52, none, x6), (66, some 0, fun _ => (I 66 0)), (67, none, x4), (68, none, x5), (69, none, (I 69))] J []))) ?_ zFU ((0 : Int32), (I 14), (I 17), (I 67), (I 68), (I 52)) h
  rintro ⟨x1, x2, x3, x4, x5, x6⟩ h
  refine g_iload (pc' := 5)  hc rfl rfl rfl ?_
  refine g_aload_n (pc' := 6)  hc rfl rfl rfl rfl ?_
  refine z_getI (pc' := 9) (v := (I 7 3)) hc rfl rfl rfl sh_7 rfl rfl rfl ?_
  refine g_icmp_ge (pc' := 12) hc rfl rfl (fun hx => ?_) (fun hx => ?_)
  · replace h := zwp_t h hx
    replace h := zwp_r h
    exact h (some (.int x1)) rfl
  · replace h := zwp_f h hx
    refine g_aload_n (pc' := 13)  hc rfl rfl rfl rfl ?_
    refine z_getR (pc' := 16)  hc rfl rfl rfl sh_66 rfl rfl ?_
    refine g_iload (pc' := 18)  hc rfl rfl rfl ?_
    have hb := (zwp_bnd h).1
    replace h := (zwp_bnd h).2
    refine z_iaload (pc' := 19) (v := (((I 69)) x1.toNatClampNeg)) hc rfl rfl sh_69 hb rfl rfl ?_
    refine g_if_le (pc' := 22) hc rfl rfl (fun hx => ?_) (fun hx => ?_)
    · replace h := zwp_t h hx
      refine g_aload_n (pc' := 38)  hc rfl rfl rfl rfl ?_
      refine g_aload_n (pc' := 39)  hc rfl rfl rfl rfl ?_
      refine g_aload_n (pc' := 40)  hc rfl rfl rfl rfl ?_
      refine g_iload (pc' := 42)  hc rfl rfl rfl ?_
      refine z_virt (as := [.ref 7, .ref 66, .int x1]) (a := 51) (r := []) hc rfl rfl rfl rfl sh_51 rfl zco_16 rfl rfl rfl ?_
      refine ok_X2_wantsToGo_51_7_66 (zdp hd rfl) (zwp_mono (zwp_bind h) ?_)
      rintro ⟨r19, o17, o18⟩ h
      refine z_po (pc' := 45) (st' := [.int r19]) (v := (some (.int r19))) (L' := [(14, none, o17), (17, none, x3), (52, none, o18), (66, some 0, fun _ => (I 66 0)), (67, none, x4), (68, none, x5), (69, none, (I 69))]) (K' := []) zco_16 rfl rfl rfl rfl rfl rfl rfl rfl ?_
      refine g_if_eq (pc' := 48) hc rfl rfl (fun hx => ?_) (fun hx => ?_)
      · replace h := zwp_t h hx
        refine g_iinc (pc' := 59) (ls1 := [some (.ref 51), some (.ref 7), some (.ref 66), some (.int a3), some (.int (x1 + (1 : Int32)))]) hc rfl rfl zki_1 (zlt rfl) rfl rfl ?_
        refine g_goto hc rfl ?_
        replace h := zwp_l h
        exact h
      · replace h := zwp_f h hx
        refine g_aload_n (pc' := 49)  hc rfl rfl rfl rfl ?_
        refine g_aload_n (pc' := 50)  hc rfl rfl rfl rfl ?_
        refine g_aload_n (pc' := 51)  hc rfl rfl rfl rfl ?_
        refine g_iload (pc' := 53)  hc rfl rfl rfl ?_
        refine z_virt (as := [.ref 7, .ref 66, .int x1]) (a := 51) (r := []) hc rfl rfl rfl rfl sh_51 rfl zco_17 rfl rfl rfl ?_
        refine ok_X2_go_51_7_66 (zdp hd rfl) (zwp_mono (zwp_bind h) ?_)
        rintro o20 h
        refine z_po (pc' := 56) (st' := []) (v := none) (L' := [(14, none, o17), (17, none, x3), (52, none, o18), (66, some 0, fun _ => (I 66 0)), (67, none, o20), (68, none, x5), (69, none, (I 69))]) (K' := []) zco_17 rfl rfl rfl rfl rfl rfl rfl rfl ?_
        refine g_iinc (pc' := 59) (ls1 := [some (.ref 51), some (.ref 7), some (.ref 66), some (.int a3), some (.int (x1 + (1 : Int32)))]) hc rfl rfl zki_1 (zlt rfl) rfl rfl ?_
        refine g_goto hc rfl ?_
        replace h := zwp_l h
        exact h
    · replace h := zwp_f h hx
      refine g_iload_n (pc' := 23)  hc rfl rfl rfl ?_
      refine g_if_ne (pc' := 26) hc rfl rfl (fun hx => ?_) (fun hx => ?_)
      · replace h := zwp_f h hx
        refine g_aload_n (pc' := 38)  hc rfl rfl rfl rfl ?_
        refine g_aload_n (pc' := 39)  hc rfl rfl rfl rfl ?_
        refine g_aload_n (pc' := 40)  hc rfl rfl rfl rfl ?_
        refine g_iload (pc' := 42)  hc rfl rfl rfl ?_
        refine z_virt (as := [.ref 7, .ref 66, .int x1]) (a := 51) (r := []) hc rfl rfl rfl rfl sh_51 rfl zco_16 rfl rfl rfl ?_
        refine ok_X2_wantsToGo_51_7_66 (zdp hd rfl) (zwp_mono (zwp_bind h) ?_)
        rintro ⟨r23, o21, o22⟩ h
        refine z_po (pc' := 45) (st' := [.int r23]) (v := (some (.int r23))) (L' := [(14, none, o21), (17, none, x3), (52, none, o22), (66, some 0, fun _ => (I 66 0)), (67, none, x4), (68, none, x5), (69, none, (I 69))]) (K' := []) zco_16 rfl rfl rfl rfl rfl rfl rfl rfl ?_
        refine g_if_eq (pc' := 48) hc rfl rfl (fun hx => ?_) (fun hx => ?_)
        · replace h := zwp_t h hx
          refine g_iinc (pc' := 59) (ls1 := [some (.ref 51), some (.ref 7), some (.ref 66), some (.int a3), some (.int (x1 + (1 : Int32)))]) hc rfl rfl zki_1 (zlt rfl) rfl rfl ?_
          refine g_goto hc rfl ?_
          replace h := zwp_l h
          exact h
        · replace h := zwp_f h hx
          refine g_aload_n (pc' := 49)  hc rfl rfl rfl rfl ?_
          refine g_aload_n (pc' := 50)  hc rfl rfl rfl rfl ?_
          refine g_aload_n (pc' := 51)  hc rfl rfl rfl rfl ?_
          refine g_iload (pc' := 53)  hc rfl rfl rfl ?_
          refine z_virt (as := [.ref 7, .ref 66, .int x1]) (a := 51) (r := []) hc rfl rfl rfl rfl sh_51 rfl zco_17 rfl rfl rfl ?_
          refine ok_X2_go_51_7_66 (zdp hd rfl) (zwp_mono (zwp_bind h) ?_)
          rintro o24 h
          refine z_po (pc' := 56) (st' := []) (v := none) (L' := [(14, none, o21), (17, none, x3), (52, none, o22), (66, some 0, fun _ => (I 66 0)), (67, none, o24), (68, none, x5), (69, none, (I 69))]) (K' := []) zco_17 rfl rfl rfl rfl rfl rfl rfl rfl ?_
          refine g_iinc (pc' := 59) (ls1 := [some (.ref 51), some (.ref 7), some (.ref 66), some (.int a3), some (.int (x1 + (1 : Int32)))]) hc rfl rfl zki_1 (zlt rfl) rfl rfl ?_
          refine g_goto hc rfl ?_
          replace h := zwp_l h
          exact h
      · replace h := zwp_t h hx
        refine g_aload_n (pc' := 27)  hc rfl rfl rfl rfl ?_
        refine g_aload_n (pc' := 28)  hc rfl rfl rfl rfl ?_
        refine g_aload_n (pc' := 29)  hc rfl rfl rfl rfl ?_
        refine g_iload (pc' := 31)  hc rfl rfl rfl ?_
        refine z_virt (as := [.ref 7, .ref 66, .int x1]) (a := 51) (r := []) hc rfl rfl rfl rfl sh_51 rfl zco_15 rfl rfl rfl ?_
        refine ok_X2_hurt_51_7_66 (zdp hd rfl) (zwp_mono (zwp_bind h) ?_)
        rintro ⟨o25, o26, o27⟩ h
        refine z_po (pc' := 34) (st' := []) (v := none) (L' := [(14, none, x2), (17, none, o25), (52, none, o27), (66, some 0, fun _ => (I 66 0)), (67, none, x4), (68, none, o26), (69, none, (I 69))]) (K' := []) zco_15 rfl rfl rfl rfl rfl rfl rfl rfl ?_
        refine g_goto hc rfl ?_
        refine g_iinc (pc' := 59) (ls1 := [some (.ref 51), some (.ref 7), some (.ref 66), some (.int a3), some (.int (x1 + (1 : Int32)))]) hc rfl rfl zki_1 (zlt rfl) rfl rfl ?_
        refine g_goto hc rfl ?_
        replace h := zwp_l h
        exact h
set_option maxRecDepth 4000 in
theorem ok_X1_holdsAll_65_7_66_36_51 {p q : Nat} {I : pI} {J : pJ} {Q : pQ} {d : Nat} (hd : 5 ≤ d) (h : zwp (f_X1_holdsAll (I 39) (I 38) (I 40) (I 36 3) (I 52) (I 7 12) (I 7 3) (I 15) (I 13 2) (I 14) (I 7 1) (I 18) (I 16 2) (I 17) (I 12) (I 7 9) (I 9) (I 10) (I 7 0) (I 67) (I 66 3) (I 69) (I 66 0) (I 70) (I 68) (J 66 2)) (fun w => match w with | (r, o0, o1, o2, o3, o4, o5, o6) => Q (.inl (some (.int r))) (zS p q I [(14, none, o1), (17, none, o2), (52, none, o0), (66, some 0, fun _ => o5), (67, none, o3), (68, none, o6), (69, none, o4)] J []))) : pm_call M cost zext d 10 [.ref 65, .ref 7, .ref 66, .ref 36, .ref 51] (pm_st 108 (shp p q) I J) Q := by
  obtain ⟨d, rfl⟩ := zd1 hd rfl
  have hc := pm_call_m (M := M) (cost := cost) zext_m d
  refine z_in (L := [(14, none, (I 14)), (17, none, (I 17)), (52, none, (I 52)), (66, some 0, fun _ => (I 66 0)), (67, none, (I 67)), (68, none, (I 68)), (69, none, (I 69))]) (K := []) (ls := [some (.ref 65), some (.ref 7), some (.ref 66), some (.ref 36), some (.ref 51), none]) zmt_10 zco_10 rfl rfl (zid_a (zid_a (zid_a (zid_s (zid_a (zid_a (zid_a zid_n))))))) zid_n ?_
  delta f_X1_holdsAll at h
  refine g_iconst (pc' := 1) (v := (0 : Int32)) hc rfl zki_0 rfl ?_
  refine g_istore (pc' := 3) (ls1 := [some (.ref 65), some (.ref 7), some (.ref 66), some (.ref 36), some (.ref 51), some (.int (0 : Int32))]) hc rfl (zlt rfl) rfl rfl ?_
  refine zjs (G := (fun (g : (Nat → Int32) × (Nat → Int32) × (Nat → Int32) × (Nat → Int32) × (Nat → Int32) × Int32 × (Nat → Int32)) => match g with | (y10, y11, y12, y13, y14, y15, y16) => ∀ z9 : Option Value, znl z9 = true → pm_ev C_X1_holdsAll (d + 1) (pm_call M cost zext d) cost (false, false) 108 0 0 Q 43 [some (.ref 65), some (.ref 7), some (.ref 66), some (.ref 36), some (.ref 51), z9] [] 0 0 (zS p q I [(14, none, y11), (17, none, y12), (52, none, y10), (66, some 0, fun _ => y15), (67, none, y13), (68, none, y16), (69, none, y14)] J []))) h ?_ (fun h => ?_)
  · rintro ⟨y10, y11, y12, y13, y14, y15, y16⟩ h z9 hz9
    refine g_iconst (pc' := 44) (v := (1 : Int32)) hc rfl zki_1 rfl ?_
    replace h := zws h
    exact g_ireturn hc rfl rfl rfl (fun _ => ⟨rfl, rfl⟩) h
  refine zitr_ev (G := (fun (g : Int32 × (Nat → Int32) × (Nat → Int32) × (Nat → Int32) × (Nat → Int32) × (Nat → Int32) × Int32 × (Nat → Int32)) => match g with | (x1, x2, x3, x4, x5, x6, x7, x8) => pm_ev C_X1_holdsAll (d + 1) (pm_call M cost zext d) cost (false, false) 108 0 0 Q 3 [some (.ref 65), some (.ref 7), some (.ref 66), some (.ref 36), some (.ref 51), some (.int x1)] [] 0 0 (zS p q I [(14, none, x3), (17, none, x4), (52, none, x2), (66, some 0, fun _ => x7), (67, none, x5), (68, none, x8), (69, none, x6)] J []))) ?_ zFU ((0 : Int32), (I 52), (I 14), (I 17), (I 67), (I 69), (I 66 0), (I 68)) h
  rintro ⟨x1, x2, x3, x4, x5, x6, x7, x8⟩ h
  refine g_iload (pc' := 5)  hc rfl rfl rfl ?_
  refine g_bipush (pc' := 7) (v := (20 : Int32)) hc rfl zkb_20 rfl ?_
  refine g_icmp_gt (pc' := 10) hc rfl rfl (fun hx => ?_) (fun hx => ?_)
  · replace h := zwp_t h hx
    replace h := zwp_r h
    exact h (some (.int x1)) rfl
  · replace h := zwp_f h hx
    refine g_aload_n (pc' := 11)  hc rfl rfl rfl rfl ?_
    refine g_aload_n (pc' := 12)  hc rfl rfl rfl rfl ?_
    refine g_iload (pc' := 14)  hc rfl rfl rfl ?_
    refine z_virt (as := [.ref 66, .int x1]) (a := 36) (r := []) hc rfl rfl rfl rfl sh_36 rfl zco_7 rfl rfl rfl ?_
    refine ok_X0_agrees_36_66 (zdp hd rfl) (zwp_mono (zwp_bind h) ?_)
    rintro r17 h
    refine z_po (pc' := 17) (st' := [.int r17]) (v := (some (.int r17))) (L' := [(14, none, x3), (17, none, x4), (52, none, x2), (66, some 0, fun _ => x7), (67, none, x5), (68, none, x8), (69, none, x6)]) (K' := []) zco_7 rfl rfl rfl rfl rfl rfl rfl rfl ?_
    refine g_if_ne (pc' := 20) hc rfl rfl (fun hx => ?_) (fun hx => ?_)
    · replace h := zwp_f h hx
      refine g_aload (pc' := 24)  hc rfl rfl rfl rfl ?_
      refine g_aload_n (pc' := 25)  hc rfl rfl rfl rfl ?_
      refine g_aload_n (pc' := 26)  hc rfl rfl rfl rfl ?_
      refine g_aload_n (pc' := 27)  hc rfl rfl rfl rfl ?_
      refine g_aload_n (pc' := 28)  hc rfl rfl rfl rfl ?_
      refine z_getI (pc' := 31) (v := x7) hc rfl rfl rfl sh_66 rfl rfl rfl ?_
      refine z_virt (as := [.int x7]) (a := 7) (r := [.ref 66, .ref 7, .ref 51]) hc rfl rfl rfl rfl sh_7 rfl zco_23 rfl rfl rfl ?_
      refine ok_X3_isDull_7 (zdp hd rfl) (zwp_mono (zwp_bind h) ?_)
      rintro r18 h
      refine z_po (pc' := 34) (st' := [.int r18, .ref 66, .ref 7, .ref 51]) (v := (some (.int r18))) (L' := [(14, none, x3), (17, none, x4), (52, none, x2), (66, some 0, fun _ => x7), (67, none, x5), (68, none, x8), (69, none, x6)]) (K' := []) zco_23 rfl rfl rfl rfl rfl rfl rfl rfl ?_
      refine z_virt (as := [.ref 7, .ref 66, .int r18]) (a := 51) (r := []) hc rfl rfl rfl rfl sh_51 rfl zco_14 rfl rfl rfl ?_
      refine ok_X2_passHour_51_7_66 (zdp hd rfl) (zwp_mono (zwp_bind h) ?_)
      rintro ⟨o19, o20, o21, o22, o23, o24, o25⟩ h
      refine z_po (pc' := 37) (st' := []) (v := none) (L' := [(14, none, o19), (17, none, o20), (52, none, o25), (66, some 0, fun _ => o23), (67, none, o21), (68, none, o24), (69, none, o22)]) (K' := []) zco_14 rfl rfl rfl rfl rfl rfl rfl rfl ?_
      refine g_iinc (pc' := 40) (ls1 := [some (.ref 65), some (.ref 7), some (.ref 66), some (.ref 36), some (.ref 51), some (.int (x1 + (1 : Int32)))]) hc rfl rfl zki_1 (zlt rfl) rfl rfl ?_
      refine g_goto hc rfl ?_
      replace h := zwp_l h
      exact h
    · replace h := zwp_t h hx
      refine g_iconst (pc' := 21) (v := (0 : Int32)) hc rfl zki_0 rfl ?_
      replace h := zws h
      exact g_ireturn hc rfl rfl rfl (fun _ => ⟨rfl, rfl⟩) h
set_option maxRecDepth 4000 in
theorem ok_X2_passHours_51_7_66 {p q : Nat} {I : pI} {J : pJ} {a3 : Int32} {Q : pQ} {d : Nat} (hd : 5 ≤ d) (h : zwp (f_X2_passHours a3 (I 7 12) (I 7 3) (I 15) (I 13 2) (I 14) (I 7 1) (I 18) (I 16 2) (I 17) (I 12) (I 7 9) (I 9) (I 10) (I 7 0) (I 67) (I 66 3) (I 69) (I 66 0) (I 70) (I 68) (J 66 2) (I 52)) (fun w => match w with | (o0, o1, o2, o3, o4, o5, o6) => Q (.inl none) (zS p q I [(14, none, o0), (17, none, o1), (52, none, o6), (66, some 0, fun _ => o4), (67, none, o2), (68, none, o5), (69, none, o3)] J []))) : pm_call M cost zext d 13 [.ref 51, .ref 7, .ref 66, .int a3] (pm_st 108 (shp p q) I J) Q := by
  obtain ⟨d, rfl⟩ := zd1 hd rfl
  have hc := pm_call_m (M := M) (cost := cost) zext_m d
  refine z_in (L := [(14, none, (I 14)), (17, none, (I 17)), (52, none, (I 52)), (66, some 0, fun _ => (I 66 0)), (67, none, (I 67)), (68, none, (I 68)), (69, none, (I 69))]) (K := []) (ls := [some (.ref 51), some (.ref 7), some (.ref 66), some (.int a3), none]) zmt_13 zco_13 rfl rfl (zid_a (zid_a (zid_a (zid_s (zid_a (zid_a (zid_a zid_n))))))) zid_n ?_
  delta f_X2_passHours at h
  refine g_iconst (pc' := 1) (v := (0 : Int32)) hc rfl zki_0 rfl ?_
  refine g_istore (pc' := 3) (ls1 := [some (.ref 51), some (.ref 7), some (.ref 66), some (.int a3), some (.int (0 : Int32))]) hc rfl (zlt rfl) rfl rfl ?_
  refine zjn (G := (fun (g : (Nat → Int32) × (Nat → Int32) × (Nat → Int32) × (Nat → Int32) × Int32 × (Nat → Int32) × (Nat → Int32)) => match g with | (y10, y11, y12, y13, y14, y15, y16) => ∀ z9 : Option Value, znl z9 = true → pm_ev C_X2_passHours (d + 1) (pm_call M cost zext d) cost (false, false) 108 0 0 Q 29 [some (.ref 51), some (.ref 7), some (.ref 66), some (.int a3), z9] [] 0 0 (zS p q I [(14, none, y10), (17, none, y11), (52, none, y16), (66, some 0, fun _ => y14), (67, none, y12), (68, none, y15), (69, none, y13)] J []))) (zwp_bind h) ?_ (fun h => ?_)
  · rintro ⟨y10, y11, y12, y13, y14, y15, y16⟩ h z9 hz9
    replace h := zws h
    exact g_return hc rfl rfl (fun _ => ⟨rfl, rfl⟩) h
  refine zitr_ev (G := (fun (g : Int32 × (Nat → Int32) × (Nat → Int32) × (Nat → Int32) × (Nat → Int32) × Int32 × (Nat → Int32) × (Nat → Int32)) => match g with | (x1, x2, x3, x4, x5, x6, x7, x8) => pm_ev C_X2_passHours (d + 1) (pm_call M cost zext d) cost (false, false) 108 0 0 Q 3 [some (.ref 51), some (.ref 7), some (.ref 66), some (.int a3), some (.int x1)] [] 0 0 (zS p q I [(14, none, x2), (17, none, x3), (52, none, x8), (66, some 0, fun _ => x6), (67, none, x4), (68, none, x7), (69, none, x5)] J []))) ?_ zFU ((0 : Int32), (I 14), (I 17), (I 67), (I 69), (I 66 0), (I 68), (I 52)) h
  rintro ⟨x1, x2, x3, x4, x5, x6, x7, x8⟩ h
  refine g_iload (pc' := 5)  hc rfl rfl rfl ?_
  refine g_iload_n (pc' := 6)  hc rfl rfl rfl ?_
  refine g_icmp_ge (pc' := 9) hc rfl rfl (fun hx => ?_) (fun hx => ?_)
  · replace h := zwp_t h hx
    replace h := zwp_r h
    exact h (some (.int x1)) rfl
  · replace h := zwp_f h hx
    refine g_aload_n (pc' := 10)  hc rfl rfl rfl rfl ?_
    refine g_aload_n (pc' := 11)  hc rfl rfl rfl rfl ?_
    refine g_aload_n (pc' := 12)  hc rfl rfl rfl rfl ?_
    refine g_aload_n (pc' := 13)  hc rfl rfl rfl rfl ?_
    refine g_aload_n (pc' := 14)  hc rfl rfl rfl rfl ?_
    refine z_getI (pc' := 17) (v := x6) hc rfl rfl rfl sh_66 rfl rfl rfl ?_
    refine z_virt (as := [.int x6]) (a := 7) (r := [.ref 66, .ref 7, .ref 51]) hc rfl rfl rfl rfl sh_7 rfl zco_23 rfl rfl rfl ?_
    refine ok_X3_isDull_7 (zdp hd rfl) (zwp_mono (zwp_bind h) ?_)
    rintro r17 h
    refine z_po (pc' := 20) (st' := [.int r17, .ref 66, .ref 7, .ref 51]) (v := (some (.int r17))) (L' := [(14, none, x2), (17, none, x3), (52, none, x8), (66, some 0, fun _ => x6), (67, none, x4), (68, none, x7), (69, none, x5)]) (K' := []) zco_23 rfl rfl rfl rfl rfl rfl rfl rfl ?_
    refine z_virt (as := [.ref 7, .ref 66, .int r17]) (a := 51) (r := []) hc rfl rfl rfl rfl sh_51 rfl zco_14 rfl rfl rfl ?_
    refine ok_X2_passHour_51_7_66 (zdp hd rfl) (zwp_mono (zwp_bind h) ?_)
    rintro ⟨o18, o19, o20, o21, o22, o23, o24⟩ h
    refine z_po (pc' := 23) (st' := []) (v := none) (L' := [(14, none, o18), (17, none, o19), (52, none, o24), (66, some 0, fun _ => o22), (67, none, o20), (68, none, o23), (69, none, o21)]) (K' := []) zco_14 rfl rfl rfl rfl rfl rfl rfl rfl ?_
    refine g_iinc (pc' := 26) (ls1 := [some (.ref 51), some (.ref 7), some (.ref 66), some (.int a3), some (.int (x1 + (1 : Int32)))]) hc rfl rfl zki_1 (zlt rfl) rfl rfl ?_
    refine g_goto hc rfl ?_
    replace h := zwp_l h
    exact h
set_option maxRecDepth 4000 in
theorem ok_X1_addPlaces_65_7_51 {p q : Nat} {I : pI} {J : pJ} {Q : pQ} {d : Nat} (hd : 6 ≤ d) (h : zwp (f_X1_addPlaces (I 52) (J 71) (I 7 12) (I 7 3) (I 15) (I 13 2) (I 14) (I 7 1) (I 18) (I 16 2) (I 17) (I 12) (I 7 9) (I 9) (I 10) (I 7 0) (I 67) (I 66 3) (I 69) (I 66 0) (I 70) (I 68) (J 66 2)) (fun w => match w with | (o0, o1, o2, o3, o4, o5, o6, o7) => Q (.inl none) (zS p q I [(14, none, o2), (17, none, o3), (52, none, o0), (66, some 0, fun _ => o6), (67, none, o4), (68, none, o7), (69, none, o5)] J [(71, none, o1)]))) : pm_call M cost zext d 11 [.ref 65, .ref 7, .ref 51] (pm_st 108 (shp p q) I J) Q := by
  obtain ⟨d, rfl⟩ := zd1 hd rfl
  have hc := pm_call_m (M := M) (cost := cost) zext_m d
  refine z_in (L := [(14, none, (I 14)), (17, none, (I 17)), (52, none, (I 52)), (66, some 0, fun _ => (I 66 0)), (67, none, (I 67)), (68, none, (I 68)), (69, none, (I 69))]) (K := [(71, none, (J 71))]) (ls := [some (.ref 65), some (.ref 7), some (.ref 51), none]) zmt_11 zco_11 rfl rfl (zid_a (zid_a (zid_a (zid_s (zid_a (zid_a (zid_a zid_n))))))) (zid_a zid_n) ?_
  delta f_X1_addPlaces at h
  refine g_aload_n (pc' := 1)  hc rfl rfl rfl rfl ?_
  refine g_aload_n (pc' := 2)  hc rfl rfl rfl rfl ?_
  refine g_aload_n (pc' := 3)  hc rfl rfl rfl rfl ?_
  refine z_getR (pc' := 6)  hc rfl rfl rfl sh_65 rfl rfl ?_
  refine g_iconst (pc' := 7) (v := (5 : Int32)) hc rfl zki_5 rfl ?_
  refine z_virt (as := [.ref 7, .ref 66, .int (5 : Int32)]) (a := 51) (r := []) hc rfl rfl rfl rfl sh_51 rfl zco_13 rfl rfl rfl ?_
  refine ok_X2_passHours_51_7_66 (zdp hd rfl) (zwp_mono (zwp_bind h) ?_)
  rintro ⟨o1, o2, o3, o4, o5, o6, o7⟩ h
  refine z_po (pc' := 10) (st' := []) (v := none) (L' := [(14, none, o1), (17, none, o2), (52, none, o7), (66, some 0, fun _ => o5), (67, none, o3), (68, none, o6), (69, none, o4)]) (K' := [(71, none, (J 71))]) zco_13 rfl rfl rfl rfl rfl rfl rfl rfl ?_
  refine g_iconst (pc' := 11) (v := (0 : Int32)) hc rfl zki_0 rfl ?_
  refine g_istore_n (pc' := 12) (ls1 := [some (.ref 65), some (.ref 7), some (.ref 51), some (.int (0 : Int32))]) hc rfl (zlt rfl) rfl rfl ?_
  refine zjn (G := (fun (y11 : (Nat → Int64)) => ∀ z10 : Option Value, znl z10 = true → pm_ev C_X1_addPlaces (d + 1) (pm_call M cost zext d) cost (false, false) 108 0 0 Q 50 [some (.ref 65), some (.ref 7), some (.ref 51), z10] [] 0 0 (zS p q I [(14, none, o1), (17, none, o2), (52, none, o7), (66, some 0, fun _ => o5), (67, none, o3), (68, none, o6), (69, none, o4)] J [(71, none, y11)]))) (zwp_bind h) ?_ (fun h => ?_)
  · rintro y11 h z10 hz10
    replace h := zws h
    exact g_return hc rfl rfl (fun _ => ⟨rfl, rfl⟩) h
  refine zitr_ev (G := (fun (g : Int32 × (Nat → Int64)) => match g with | (x8, x9) => pm_ev C_X1_addPlaces (d + 1) (pm_call M cost zext d) cost (false, false) 108 0 0 Q 12 [some (.ref 65), some (.ref 7), some (.ref 51), some (.int x8)] [] 0 0 (zS p q I [(14, none, o1), (17, none, o2), (52, none, o7), (66, some 0, fun _ => o5), (67, none, o3), (68, none, o6), (69, none, o4)] J [(71, none, x9)]))) ?_ zFU ((0 : Int32), (J 71)) h
  rintro ⟨x8, x9⟩ h
  refine g_iload_n (pc' := 13)  hc rfl rfl rfl ?_
  refine g_aload_n (pc' := 14)  hc rfl rfl rfl rfl ?_
  refine z_getI (pc' := 17) (v := (I 7 3)) hc rfl rfl rfl sh_7 rfl rfl rfl ?_
  refine g_icmp_ge (pc' := 20) hc rfl rfl (fun hx => ?_) (fun hx => ?_)
  · replace h := zwp_t h hx
    replace h := zwp_r h
    exact h (some (.int x8)) rfl
  · replace h := zwp_f h hx
    refine g_aload_n (pc' := 21)  hc rfl rfl rfl rfl ?_
    refine z_getR (pc' := 24)  hc rfl rfl rfl sh_65 rfl rfl ?_
    refine g_iload_n (pc' := 25)  hc rfl rfl rfl ?_
    refine g_aload_n (pc' := 26)  hc rfl rfl rfl rfl ?_
    refine z_getR (pc' := 29)  hc rfl rfl rfl sh_65 rfl rfl ?_
    refine g_iload_n (pc' := 30)  hc rfl rfl rfl ?_
    have hb := (zwp_bnd h).1
    replace h := (zwp_bnd h).2
    refine z_laload (pc' := 31) (v := (x9 x8.toNatClampNeg)) hc rfl rfl sh_71 hb rfl rfl ?_
    refine g_lconst (pc' := 32) (v := (1 : Int64)) hc rfl zkl_1 rfl ?_
    refine g_aload_n (pc' := 33)  hc rfl rfl rfl rfl ?_
    refine z_getR (pc' := 36)  hc rfl rfl rfl sh_65 rfl rfl ?_
    refine z_getR (pc' := 39)  hc rfl rfl rfl sh_66 rfl rfl ?_
    refine g_iload_n (pc' := 40)  hc rfl rfl rfl ?_
    have hb := (zwp_bnd h).1
    replace h := (zwp_bnd h).2
    refine z_iaload (pc' := 41) (v := (o3 x8.toNatClampNeg)) hc rfl rfl sh_67 hb rfl rfl ?_
    refine g_lshl (pc' := 42)  hc rfl rfl ?_
    refine g_lor (pc' := 43)  hc rfl rfl ?_
    have hb := (zwp_bnd h).1
    replace h := (zwp_bnd h).2
    refine z_lastore (pc' := 44) (g := x9) (K' := [(71, none, (vp_updL x9 x8.toNatClampNeg ((x9 x8.toNatClampNeg) ||| ((1 : Int64) <<< ((o3 x8.toNatClampNeg).toInt64 &&& 63)))))]) hc rfl rfl sh_71 hb rfl rfl rfl rfl ?_
    refine g_iinc (pc' := 47) (ls1 := [some (.ref 65), some (.ref 7), some (.ref 51), some (.int (x8 + (1 : Int32)))]) hc rfl rfl zki_1 (zlt rfl) rfl rfl ?_
    refine g_goto hc rfl ?_
    replace h := zwp_l h
    exact h
set_option maxRecDepth 4000 in
theorem ok_X1_search_65_7_31_36_51 {p q : Nat} {I : pI} {J : pJ} {Q : pQ} {d : Nat} (hd : 7 ≤ d) (h : zwp (f_X1_search (I 39) (I 38) (I 40) (I 36 3) (I 65 3) (I 65 2) (I 52) (J 71) (I 7 12) (I 7 3) (I 15) (I 13 2) (I 14) (I 7 1) (I 18) (I 16 2) (I 17) (I 12) (I 7 9) (I 9) (I 10) (I 7 0) (I 32) (I 31 3) (I 34) (I 31 0) (I 35) (I 31 1) (I 33) (J 31 2) (I 67) (I 66 3) (I 69) (I 66 0) (I 70) (I 66 1) (I 68) (J 66 2)) (fun w => match w with | (o0, o1, o2, o3, o4, o5, o6, o7, o8, o9, o10, o11, o12, o13) => Q (.inl none) (zS p q I [(14, none, o4), (17, none, o5), (52, none, o2), (65, some 2, fun _ => o1), (65, some 3, fun _ => o0), (66, some 0, fun _ => o9), (66, some 1, fun _ => o11), (66, some 3, fun _ => o7), (67, none, o6), (68, none, o12), (69, none, o8), (70, none, o10)] J [(66, some 2, fun _ => o13), (71, none, o3)]))) : pm_call M cost zext d 9 [.ref 65, .ref 7, .ref 31, .ref 36, .ref 51] (pm_st 108 (shp p q) I J) Q := by
  obtain ⟨d, rfl⟩ := zd1 hd rfl
  have hc := pm_call_m (M := M) (cost := cost) zext_m d
  refine z_in (L := [(14, none, (I 14)), (17, none, (I 17)), (52, none, (I 52)), (65, some 2, fun _ => (I 65 2)), (65, some 3, fun _ => (I 65 3)), (66, some 0, fun _ => (I 66 0)), (66, some 1, fun _ => (I 66 1)), (66, some 3, fun _ => (I 66 3)), (67, none, (I 67)), (68, none, (I 68)), (69, none, (I 69)), (70, none, (I 70))]) (K := [(66, some 2, fun _ => (J 66 2)), (71, none, (J 71))]) (ls := [some (.ref 65), some (.ref 7), some (.ref 31), some (.ref 36), some (.ref 51), none, none]) zmt_9 zco_9 rfl rfl (zid_a (zid_a (zid_a (zid_s (zid_s (zid_s (zid_s (zid_s (zid_a (zid_a (zid_a (zid_a zid_n)))))))))))) (zid_s (zid_a zid_n)) ?_
  delta f_X1_search at h
  refine g_aload_n (pc' := 1)  hc rfl rfl rfl rfl ?_
  refine g_iconst (pc' := 2) (v := (0 : Int32)) hc rfl zki_0 rfl ?_
  refine z_putI (pc' := 5) (L' := [(14, none, (I 14)), (17, none, (I 17)), (52, none, (I 52)), (65, some 2, fun _ => (0 : Int32)), (65, some 3, fun _ => (I 65 3)), (66, some 0, fun _ => (I 66 0)), (66, some 1, fun _ => (I 66 1)), (66, some 3, fun _ => (I 66 3)), (67, none, (I 67)), (68, none, (I 68)), (69, none, (I 69)), (70, none, (I 70))]) hc rfl rfl rfl sh_65 rfl zft_1_2 rfl (fun h => Bool.noConfusion h) rfl rfl rfl ?_
  refine g_aload_n (pc' := 6)  hc rfl rfl rfl rfl ?_
  refine g_iconst (pc' := 7) (v := (-1 : Int32)) hc rfl zki_m1 rfl ?_
  refine z_putI (pc' := 10) (L' := [(14, none, (I 14)), (17, none, (I 17)), (52, none, (I 52)), (65, some 2, fun _ => (0 : Int32)), (65, some 3, fun _ => (-1 : Int32)), (66, some 0, fun _ => (I 66 0)), (66, some 1, fun _ => (I 66 1)), (66, some 3, fun _ => (I 66 3)), (67, none, (I 67)), (68, none, (I 68)), (69, none, (I 69)), (70, none, (I 70))]) hc rfl rfl rfl sh_65 rfl zft_1_3 rfl (fun h => Bool.noConfusion h) rfl rfl rfl ?_
  refine g_aload_n (pc' := 11)  hc rfl rfl rfl rfl ?_
  refine z_getR (pc' := 14)  hc rfl rfl rfl sh_65 rfl rfl ?_
  refine g_lconst (pc' := 15) (v := (0 : Int64)) hc rfl zkl_0 rfl ?_
  refine z_stat (as := [.ref 71, .long (0 : Int64)]) (r := []) hc rfl rfl rfl rfl zco_267 rfl rfl rfl ?_
  refine ok_J7_fill_d0a16_71 (zdp hd rfl) (zwp_mono (zwp_bind h) ?_)
  rintro o1 h
  refine z_po (pc' := 18) (st' := []) (v := none) (L' := [(14, none, (I 14)), (17, none, (I 17)), (52, none, (I 52)), (65, some 2, fun _ => (0 : Int32)), (65, some 3, fun _ => (-1 : Int32)), (66, some 0, fun _ => (I 66 0)), (66, some 1, fun _ => (I 66 1)), (66, some 3, fun _ => (I 66 3)), (67, none, (I 67)), (68, none, (I 68)), (69, none, (I 69)), (70, none, (I 70))]) (K' := [(66, some 2, fun _ => (J 66 2)), (71, none, o1)]) zco_267 rfl rfl rfl rfl rfl rfl rfl rfl ?_
  refine g_iconst (pc' := 19) (v := (0 : Int32)) hc rfl zki_0 rfl ?_
  refine g_istore (pc' := 21) (ls1 := [some (.ref 65), some (.ref 7), some (.ref 31), some (.ref 36), some (.ref 51), some (.int (0 : Int32)), none]) hc rfl (zlt rfl) rfl rfl ?_
  refine zjn (G := (fun (g : Int32 × Int32 × (Nat → Int32) × (Nat → Int64) × (Nat → Int32) × (Nat → Int32) × (Nat → Int32) × Int32 × (Nat → Int32) × Int32 × (Nat → Int32) × Int32 × (Nat → Int32) × Int64) => match g with | (y20, y21, y22, y23, y24, y25, y26, y27, y28, y29, y30, y31, y32, y33) => ∀ z18 : Option Value, znl z18 = true → ∀ z19 : Option Value, znl z19 = true → pm_ev C_X1_search (d + 1) (pm_call M cost zext d) cost (false, false) 108 0 0 Q 170 [some (.ref 65), some (.ref 7), some (.ref 31), some (.ref 36), some (.ref 51), z18, z19] [] 0 0 (zS p q I [(14, none, y24), (17, none, y25), (52, none, y22), (65, some 2, fun _ => y21), (65, some 3, fun _ => y20), (66, some 0, fun _ => y29), (66, some 1, fun _ => y31), (66, some 3, fun _ => y27), (67, none, y26), (68, none, y32), (69, none, y28), (70, none, y30)] J [(66, some 2, fun _ => y33), (71, none, y23)]))) (zwp_bind h) ?_ (fun h => ?_)
  · rintro ⟨y20, y21, y22, y23, y24, y25, y26, y27, y28, y29, y30, y31, y32, y33⟩ h z18 hz18 z19 hz19
    replace h := zws h
    exact g_return hc rfl rfl (fun _ => ⟨rfl, rfl⟩) h
  refine zitr_ev (G := (fun (g : Int32 × Int32 × Int32 × (Nat → Int32) × (Nat → Int64) × (Nat → Int32) × (Nat → Int32) × (Nat → Int32) × Int32 × (Nat → Int32) × Int32 × (Nat → Int32) × Int32 × (Nat → Int32) × Int64) => match g with | (x2, x4, x5, x6, x7, x8, x9, x10, x11, x12, x13, x14, x15, x16, x17) => ∀ z3 : Option Value, znl z3 = true → pm_ev C_X1_search (d + 1) (pm_call M cost zext d) cost (false, false) 108 0 0 Q 21 [some (.ref 65), some (.ref 7), some (.ref 31), some (.ref 36), some (.ref 51), some (.int x2), z3] [] 0 0 (zS p q I [(14, none, x8), (17, none, x9), (52, none, x6), (65, some 2, fun _ => x5), (65, some 3, fun _ => x4), (66, some 0, fun _ => x13), (66, some 1, fun _ => x15), (66, some 3, fun _ => x11), (67, none, x10), (68, none, x16), (69, none, x12), (70, none, x14)] J [(66, some 2, fun _ => x17), (71, none, x7)]))) ?_ zFU ((0 : Int32), (-1 : Int32), (0 : Int32), (I 52), o1, (I 14), (I 17), (I 67), (I 66 3), (I 69), (I 66 0), (I 70), (I 66 1), (I 68), (J 66 2)) h none rfl
  rintro ⟨x2, x4, x5, x6, x7, x8, x9, x10, x11, x12, x13, x14, x15, x16, x17⟩ h z3 hz3
  refine g_iload (pc' := 23)  hc rfl rfl rfl ?_
  refine g_aload_n (pc' := 24)  hc rfl rfl rfl rfl ?_
  refine z_getI (pc' := 27) (v := (I 7 3)) hc rfl rfl rfl sh_7 rfl rfl rfl ?_
  refine g_icmp_ge (pc' := 30) hc rfl rfl (fun hx => ?_) (fun hx => ?_)
  · replace h := zwp_t h hx
    replace h := zwp_r h
    exact h (some (.int x2)) rfl z3 hz3
  · replace h := zwp_f h hx
    refine g_iconst (pc' := 31) (v := (0 : Int32)) hc rfl zki_0 rfl ?_
    refine g_istore (pc' := 33) (ls1 := [some (.ref 65), some (.ref 7), some (.ref 31), some (.ref 36), some (.ref 51), some (.int x2), some (.int (0 : Int32))]) hc rfl (zlt rfl) rfl rfl ?_
    refine zjn (G := (fun (g : Int32 × Int32 × (Nat → Int32) × (Nat → Int64) × (Nat → Int32) × (Nat → Int32) × (Nat → Int32) × Int32 × (Nat → Int32) × Int32 × (Nat → Int32) × Int32 × (Nat → Int32) × Int64) => match g with | (y50, y51, y52, y53, y54, y55, y56, y57, y58, y59, y60, y61, y62, y63) => ∀ z49 : Option Value, znl z49 = true → pm_ev C_X1_search (d + 1) (pm_call M cost zext d) cost (false, false) 108 0 0 Q 164 [some (.ref 65), some (.ref 7), some (.ref 31), some (.ref 36), some (.ref 51), some (.int x2), z49] [] 0 0 (zS p q I [(14, none, y54), (17, none, y55), (52, none, y52), (65, some 2, fun _ => y51), (65, some 3, fun _ => y50), (66, some 0, fun _ => y59), (66, some 1, fun _ => y61), (66, some 3, fun _ => y57), (67, none, y56), (68, none, y62), (69, none, y58), (70, none, y60)] J [(66, some 2, fun _ => y63), (71, none, y53)]))) (zwp_bind h) ?_ (fun h => ?_)
    · rintro ⟨y50, y51, y52, y53, y54, y55, y56, y57, y58, y59, y60, y61, y62, y63⟩ h z49 hz49
      refine g_iinc (pc' := 167) (ls1 := [some (.ref 65), some (.ref 7), some (.ref 31), some (.ref 36), some (.ref 51), some (.int (x2 + (1 : Int32))), z49]) hc rfl rfl zki_1 (zlt rfl) rfl rfl ?_
      refine g_goto hc rfl ?_
      replace h := zwp_l h
      exact h z49 hz49
    refine zitr_ev (G := (fun (g : Int32 × Int32 × Int32 × (Nat → Int32) × (Nat → Int64) × (Nat → Int32) × (Nat → Int32) × (Nat → Int32) × Int32 × (Nat → Int32) × Int32 × (Nat → Int32) × Int32 × (Nat → Int32) × Int64) => match g with | (x34, x35, x36, x37, x38, x39, x40, x41, x42, x43, x44, x45, x46, x47, x48) => pm_ev C_X1_search (d + 1) (pm_call M cost zext d) cost (false, false) 108 0 0 Q 33 [some (.ref 65), some (.ref 7), some (.ref 31), some (.ref 36), some (.ref 51), some (.int x2), some (.int x34)] [] 0 0 (zS p q I [(14, none, x39), (17, none, x40), (52, none, x37), (65, some 2, fun _ => x36), (65, some 3, fun _ => x35), (66, some 0, fun _ => x44), (66, some 1, fun _ => x46), (66, some 3, fun _ => x42), (67, none, x41), (68, none, x47), (69, none, x43), (70, none, x45)] J [(66, some 2, fun _ => x48), (71, none, x38)]))) ?_ zFU ((0 : Int32), x4, x5, x6, x7, x8, x9, x10, x11, x12, x13, x14, x15, x16, x17) h
    rintro ⟨x34, x35, x36, x37, x38, x39, x40, x41, x42, x43, x44, x45, x46, x47, x48⟩ h
    refine g_iload (pc' := 35)  hc rfl rfl rfl ?_
    refine g_aload_n (pc' := 36)  hc rfl rfl rfl rfl ?_
    refine z_getR (pc' := 39)  hc rfl rfl rfl sh_7 rfl rfl ?_
    refine g_iload (pc' := 41)  hc rfl rfl rfl ?_
    have hb := (zwp_bnd h).1
    replace h := (zwp_bnd h).2
    refine z_iaload (pc' := 42) (v := (((I 9)) x2.toNatClampNeg)) hc rfl rfl sh_9 hb rfl rfl ?_
    refine g_icmp_ge (pc' := 45) hc rfl rfl (fun hx => ?_) (fun hx => ?_)
    · replace h := zwp_t h hx
      replace h := zwp_r h
      exact h (some (.int x34)) rfl
    · replace h := zwp_f h hx
      refine g_iload (pc' := 47)  hc rfl rfl rfl ?_
      refine g_aload_n (pc' := 48)  hc rfl rfl rfl rfl ?_
      refine z_getR (pc' := 51)  hc rfl rfl rfl sh_31 rfl rfl ?_
      refine g_iload (pc' := 53)  hc rfl rfl rfl ?_
      have hb := (zwp_bnd h).1
      replace h := (zwp_bnd h).2
      refine z_iaload (pc' := 54) (v := (((I 35)) x2.toNatClampNeg)) hc rfl rfl sh_35 hb rfl rfl ?_
      refine g_icmp_ne (pc' := 57) hc rfl rfl (fun hx => ?_) (fun hx => ?_)
      · replace h := zwp_f h hx
        refine g_aload_n (pc' := 61)  hc rfl rfl rfl rfl ?_
        refine z_getR (pc' := 64)  hc rfl rfl rfl sh_65 rfl rfl ?_
        refine g_aload_n (pc' := 65)  hc rfl rfl rfl rfl ?_
        refine z_virt (as := [.ref 31]) (a := 66) (r := []) hc rfl rfl rfl rfl sh_66 rfl zco_68 rfl rfl rfl ?_
        refine ok_X8_copyFrom_66_31 (zdp hd rfl) (zwp_mono (zwp_bind h) ?_)
        rintro ⟨o64, o65, o66, o67, o68, o69, o70, o71⟩ h
        refine z_po (pc' := 68) (st' := []) (v := none) (L' := [(14, none, x39), (17, none, x40), (52, none, x37), (65, some 2, fun _ => x36), (65, some 3, fun _ => x35), (66, some 0, fun _ => o67), (66, some 1, fun _ => o69), (66, some 3, fun _ => o65), (67, none, o64), (68, none, o70), (69, none, o66), (70, none, o68)]) (K' := [(66, some 2, fun _ => o71), (71, none, x38)]) zco_68 rfl rfl rfl rfl rfl rfl rfl rfl ?_
        refine g_aload_n (pc' := 69)  hc rfl rfl rfl rfl ?_
        refine z_getR (pc' := 72)  hc rfl rfl rfl sh_65 rfl rfl ?_
        refine z_getR (pc' := 75)  hc rfl rfl rfl sh_66 rfl rfl ?_
        refine g_iload (pc' := 77)  hc rfl rfl rfl ?_
        refine g_iload (pc' := 79)  hc rfl rfl rfl ?_
        have hb := (zwp_bnd h).1
        replace h := (zwp_bnd h).2
        refine z_iastore (pc' := 80) (g := o68) (L' := [(14, none, x39), (17, none, x40), (52, none, x37), (65, some 2, fun _ => x36), (65, some 3, fun _ => x35), (66, some 0, fun _ => o67), (66, some 1, fun _ => o69), (66, some 3, fun _ => o65), (67, none, o64), (68, none, o70), (69, none, o66), (70, none, (upd o68 x2.toNatClampNeg x34))]) hc rfl rfl sh_70 hb rfl rfl rfl rfl ?_
        refine g_aload_n (pc' := 81)  hc rfl rfl rfl rfl ?_
        refine g_aload_n (pc' := 82)  hc rfl rfl rfl rfl ?_
        refine g_aload_n (pc' := 83)  hc rfl rfl rfl rfl ?_
        refine z_getR (pc' := 86)  hc rfl rfl rfl sh_65 rfl rfl ?_
        refine g_aload_n (pc' := 87)  hc rfl rfl rfl rfl ?_
        refine g_aload (pc' := 89)  hc rfl rfl rfl rfl ?_
        refine z_virt (as := [.ref 7, .ref 66, .ref 36, .ref 51]) (a := 65) (r := []) hc rfl rfl rfl rfl sh_65 rfl zco_10 rfl rfl rfl ?_
        refine ok_X1_holdsAll_65_7_66_36_51 (zdp hd rfl) (zwp_mono (zwp_bind h) ?_)
        rintro ⟨r79, o72, o73, o74, o75, o76, o77, o78⟩ h
        refine z_po (pc' := 92) (st' := [.int r79]) (v := (some (.int r79))) (L' := [(14, none, o73), (17, none, o74), (52, none, o72), (65, some 2, fun _ => x36), (65, some 3, fun _ => x35), (66, some 0, fun _ => o77), (66, some 1, fun _ => o69), (66, some 3, fun _ => o65), (67, none, o75), (68, none, o78), (69, none, o76), (70, none, (upd o68 x2.toNatClampNeg x34))]) (K' := [(66, some 2, fun _ => o71), (71, none, x38)]) zco_10 rfl rfl rfl rfl rfl rfl rfl rfl ?_
        refine g_if_eq (pc' := 95) hc rfl rfl (fun hx => ?_) (fun hx => ?_)
        · replace h := zwp_t h hx
          refine g_iinc (pc' := 161) (ls1 := [some (.ref 65), some (.ref 7), some (.ref 31), some (.ref 36), some (.ref 51), some (.int x2), some (.int (x34 + (1 : Int32)))]) hc rfl rfl zki_1 (zlt rfl) rfl rfl ?_
          refine g_goto hc rfl ?_
          replace h := zwp_l h
          exact h
        · replace h := zwp_f h hx
          refine g_aload_n (pc' := 96)  hc rfl rfl rfl rfl ?_
          refine g_aload_n (pc' := 97)  hc rfl rfl rfl rfl ?_
          refine z_getI (pc' := 100) (v := x36) hc rfl rfl rfl sh_65 rfl rfl rfl ?_
          refine zjn (G := (fun (j80 : Int32) => pm_ev C_X1_search (d + 1) (pm_call M cost zext d) cost (false, false) 108 0 0 Q 118 [some (.ref 65), some (.ref 7), some (.ref 31), some (.ref 36), some (.ref 51), some (.int x2), some (.int x34)] [.int j80, .ref 65] 0 0 (zS p q I [(14, none, o73), (17, none, o74), (52, none, o72), (65, some 2, fun _ => x36), (65, some 3, fun _ => x35), (66, some 0, fun _ => o77), (66, some 1, fun _ => o69), (66, some 3, fun _ => o65), (67, none, o75), (68, none, o78), (69, none, o76), (70, none, (upd o68 x2.toNatClampNeg x34))] J [(66, some 2, fun _ => o71), (71, none, x38)]))) (zwp_bind h) ?_ (fun h => ?_)
          · rintro j80 h
            refine z_putI (pc' := 121) (L' := [(14, none, o73), (17, none, o74), (52, none, o72), (65, some 2, fun _ => x36), (65, some 3, fun _ => j80), (66, some 0, fun _ => o77), (66, some 1, fun _ => o69), (66, some 3, fun _ => o65), (67, none, o75), (68, none, o78), (69, none, o76), (70, none, (upd o68 x2.toNatClampNeg x34))]) hc rfl rfl rfl sh_65 rfl zft_1_3 rfl (fun h => Bool.noConfusion h) rfl rfl rfl ?_
            refine g_aload_n (pc' := 122)  hc rfl rfl rfl rfl ?_
            refine g_dup (pc' := 123)  hc rfl rfl rfl ?_
            refine z_getI (pc' := 126) (v := x36) hc rfl rfl rfl sh_65 rfl rfl rfl ?_
            refine g_iconst (pc' := 127) (v := (1 : Int32)) hc rfl zki_1 rfl ?_
            refine g_iadd (pc' := 128)  hc rfl rfl ?_
            refine z_putI (pc' := 131) (L' := [(14, none, o73), (17, none, o74), (52, none, o72), (65, some 2, fun _ => (x36 + (1 : Int32))), (65, some 3, fun _ => j80), (66, some 0, fun _ => o77), (66, some 1, fun _ => o69), (66, some 3, fun _ => o65), (67, none, o75), (68, none, o78), (69, none, o76), (70, none, (upd o68 x2.toNatClampNeg x34))]) hc rfl rfl rfl sh_65 rfl zft_1_2 rfl (fun h => Bool.noConfusion h) rfl rfl rfl ?_
            refine g_aload_n (pc' := 132)  hc rfl rfl rfl rfl ?_
            refine z_getR (pc' := 135)  hc rfl rfl rfl sh_65 rfl rfl ?_
            refine g_aload_n (pc' := 136)  hc rfl rfl rfl rfl ?_
            refine z_virt (as := [.ref 31]) (a := 66) (r := []) hc rfl rfl rfl rfl sh_66 rfl zco_68 rfl rfl rfl ?_
            refine ok_X8_copyFrom_66_31 (zdp hd rfl) (zwp_mono (zwp_bind h) ?_)
            rintro ⟨o81, o82, o83, o84, o85, o86, o87, o88⟩ h
            refine z_po (pc' := 139) (st' := []) (v := none) (L' := [(14, none, o73), (17, none, o74), (52, none, o72), (65, some 2, fun _ => (x36 + (1 : Int32))), (65, some 3, fun _ => j80), (66, some 0, fun _ => o84), (66, some 1, fun _ => o86), (66, some 3, fun _ => o82), (67, none, o81), (68, none, o87), (69, none, o83), (70, none, o85)]) (K' := [(66, some 2, fun _ => o88), (71, none, x38)]) zco_68 rfl rfl rfl rfl rfl rfl rfl rfl ?_
            refine g_aload_n (pc' := 140)  hc rfl rfl rfl rfl ?_
            refine z_getR (pc' := 143)  hc rfl rfl rfl sh_65 rfl rfl ?_
            refine z_getR (pc' := 146)  hc rfl rfl rfl sh_66 rfl rfl ?_
            refine g_iload (pc' := 148)  hc rfl rfl rfl ?_
            refine g_iload (pc' := 150)  hc rfl rfl rfl ?_
            have hb := (zwp_bnd h).1
            replace h := (zwp_bnd h).2
            refine z_iastore (pc' := 151) (g := o85) (L' := [(14, none, o73), (17, none, o74), (52, none, o72), (65, some 2, fun _ => (x36 + (1 : Int32))), (65, some 3, fun _ => j80), (66, some 0, fun _ => o84), (66, some 1, fun _ => o86), (66, some 3, fun _ => o82), (67, none, o81), (68, none, o87), (69, none, o83), (70, none, (upd o85 x2.toNatClampNeg x34))]) hc rfl rfl sh_70 hb rfl rfl rfl rfl ?_
            refine g_aload_n (pc' := 152)  hc rfl rfl rfl rfl ?_
            refine g_aload_n (pc' := 153)  hc rfl rfl rfl rfl ?_
            refine g_aload (pc' := 155)  hc rfl rfl rfl rfl ?_
            refine z_virt (as := [.ref 7, .ref 51]) (a := 65) (r := []) hc rfl rfl rfl rfl sh_65 rfl zco_11 rfl rfl rfl ?_
            refine ok_X1_addPlaces_65_7_51 (zdp hd rfl) (zwp_mono (zwp_bind h) ?_)
            rintro ⟨o89, o90, o91, o92, o93, o94, o95, o96⟩ h
            refine z_po (pc' := 158) (st' := []) (v := none) (L' := [(14, none, o91), (17, none, o92), (52, none, o89), (65, some 2, fun _ => (x36 + (1 : Int32))), (65, some 3, fun _ => j80), (66, some 0, fun _ => o95), (66, some 1, fun _ => o86), (66, some 3, fun _ => o82), (67, none, o93), (68, none, o96), (69, none, o94), (70, none, (upd o85 x2.toNatClampNeg x34))]) (K' := [(66, some 2, fun _ => o88), (71, none, o90)]) zco_11 rfl rfl rfl rfl rfl rfl rfl rfl ?_
            refine g_iinc (pc' := 161) (ls1 := [some (.ref 65), some (.ref 7), some (.ref 31), some (.ref 36), some (.ref 51), some (.int x2), some (.int (x34 + (1 : Int32)))]) hc rfl rfl zki_1 (zlt rfl) rfl rfl ?_
            refine g_goto hc rfl ?_
            replace h := zwp_l h
            exact h
          refine g_if_ne (pc' := 103) hc rfl rfl (fun hx => ?_) (fun hx => ?_)
          · replace h := zwp_f h hx
            refine g_aload_n (pc' := 115)  hc rfl rfl rfl rfl ?_
            refine z_getI (pc' := 118) (v := x35) hc rfl rfl rfl sh_65 rfl rfl rfl ?_
            replace h := zws h
            exact h
          · replace h := zwp_t h hx
            refine g_bipush (pc' := 105) (v := (10 : Int32)) hc rfl zkb_10 rfl ?_
            refine g_iload (pc' := 107)  hc rfl rfl rfl ?_
            refine g_imul (pc' := 108)  hc rfl rfl ?_
            refine g_iload (pc' := 110)  hc rfl rfl rfl ?_
            refine g_iadd (pc' := 111)  hc rfl rfl ?_
            refine g_goto hc rfl ?_
            replace h := zws h
            exact h
      · replace h := zwp_t h hx
        refine g_goto hc rfl ?_
        refine g_iinc (pc' := 161) (ls1 := [some (.ref 65), some (.ref 7), some (.ref 31), some (.ref 36), some (.ref 51), some (.int x2), some (.int (x34 + (1 : Int32)))]) hc rfl rfl zki_1 (zlt rfl) rfl rfl ?_
        refine g_goto hc rfl ?_
        replace h := zwp_l h
        exact h
set_option maxHeartbeats 20000000 in
set_option maxRecDepth 4000 in
theorem ok_X11_ahead_0_p {I : pI} {J : pJ} {a1 : Int32} {Q : pQ} {d : Nat} (hd : 8 ≤ d) (h : zwp (f_X11_ahead a1 (I 39) (I 38) (I 40) (I 36 3) (I 54) (I 53 3) (I 56) (I 53 0) (I 57) (I 53 1) (I 55) (J 53 2) (I 65 3) (I 65 2) (J 71) (I 67) (I 66 3) (I 69) (I 66 0) (I 70) (I 66 1) (I 68) (J 66 2) (I 52) (I 32) (I 31 3) (I 34) (I 31 0) (I 35) (I 31 1) (I 33) (J 31 2) (I 7 12) (I 7 3) (I 15) (I 13 2) (I 14) (I 7 1) (I 18) (I 16 2) (I 17) (I 12) (I 7 9) (I 9) (I 10) (I 7 0)) (fun w => match w with | (.inl r, o0, o1, o2, o3, o4, o5, o6, o7, o8, o9, o10, o11, o12, o13, o14, o15, o16, o17, o18, o19, o20, o21) => Q (.inl (some (.int r))) (zS 7 19 I [(14, none, o20), (17, none, o21), (52, none, o19), (53, some 0, fun _ => o3), (53, some 1, fun _ => o5), (53, some 3, fun _ => o1), (54, none, o0), (55, none, o6), (56, none, o2), (57, none, o4), (65, some 2, fun _ => o9), (65, some 3, fun _ => o8), (66, some 0, fun _ => o14), (66, some 1, fun _ => o16), (66, some 3, fun _ => o12), (67, none, o11), (68, none, o17), (69, none, o13), (70, none, o15)] J [(53, some 2, fun _ => o7), (66, some 2, fun _ => o18), (71, none, o10)]) | (.inr E, o0, o1, o2, o3, o4, o5, o6, o7, o8, o9, o10, o11, o12, o13, o14, o15, o16, o17, o18, o19, o20, o21) => Q (.inr E) (zS 7 19 I [(14, none, o20), (17, none, o21), (52, none, o19), (53, some 0, fun _ => o3), (53, some 1, fun _ => o5), (53, some 3, fun _ => o1), (54, none, o0), (55, none, o6), (56, none, o2), (57, none, o4), (65, some 2, fun _ => o9), (65, some 3, fun _ => o8), (66, some 0, fun _ => o14), (66, some 1, fun _ => o16), (66, some 3, fun _ => o12), (67, none, o11), (68, none, o17), (69, none, o13), (70, none, o15)] J [(53, some 2, fun _ => o7), (66, some 2, fun _ => o18), (71, none, o10)]))) : pm_call M cost zext d 122 [.ref 0, .int a1] (pm_st 108 (shp 7 19) I J) Q := by
  obtain ⟨d, rfl⟩ := zd1 hd rfl
  have hc := pm_call_m (M := M) (cost := cost) zext_m d
  refine z_in (L := [(14, none, (I 14)), (17, none, (I 17)), (52, none, (I 52)), (53, some 0, fun _ => (I 53 0)), (53, some 1, fun _ => (I 53 1)), (53, some 3, fun _ => (I 53 3)), (54, none, (I 54)), (55, none, (I 55)), (56, none, (I 56)), (57, none, (I 57)), (65, some 2, fun _ => (I 65 2)), (65, some 3, fun _ => (I 65 3)), (66, some 0, fun _ => (I 66 0)), (66, some 1, fun _ => (I 66 1)), (66, some 3, fun _ => (I 66 3)), (67, none, (I 67)), (68, none, (I 68)), (69, none, (I 69)), (70, none, (I 70))]) (K := [(53, some 2, fun _ => (J 53 2)), (66, some 2, fun _ => (J 66 2)), (71, none, (J 71))]) (ls := [some (.ref 0), some (.int a1)]) zmt_122 zco_122 rfl rfl (zid_a (zid_a (zid_a (zid_s (zid_s (zid_s (zid_a (zid_a (zid_a (zid_a (zid_s (zid_s (zid_s (zid_s (zid_s (zid_a (zid_a (zid_a (zid_a zid_n))))))))))))))))))) (zid_s (zid_s (zid_a zid_n))) ?_
  delta f_X11_ahead at h
  refine g_iload_n (pc' := 1)  hc rfl rfl rfl ?_
  refine g_iconst (pc' := 2) (v := (2 : Int32)) hc rfl zki_2 rfl ?_
  refine z_stat (as := [.int a1, .int (2 : Int32)]) (r := []) hc rfl rfl rfl rfl zco_135 rfl rfl rfl ?_
  refine ok_X11_checkWhat (zdp hd rfl) (zwp_mono (zwp_bind h) ?_)
  rintro (⟨⟩ | E1) h
  · refine z_po (pc' := 5) (st' := []) (v := none) (L' := [(14, none, (I 14)), (17, none, (I 17)), (52, none, (I 52)), (53, some 0, fun _ => (I 53 0)), (53, some 1, fun _ => (I 53 1)), (53, some 3, fun _ => (I 53 3)), (54, none, (I 54)), (55, none, (I 55)), (56, none, (I 56)), (57, none, (I 57)), (65, some 2, fun _ => (I 65 2)), (65, some 3, fun _ => (I 65 3)), (66, some 0, fun _ => (I 66 0)), (66, some 1, fun _ => (I 66 1)), (66, some 3, fun _ => (I 66 3)), (67, none, (I 67)), (68, none, (I 68)), (69, none, (I 69)), (70, none, (I 70))]) (K' := [(53, some 2, fun _ => (J 53 2)), (66, some 2, fun _ => (J 66 2)), (71, none, (J 71))]) zco_135 rfl rfl rfl rfl rfl rfl rfl rfl ?_
    refine g_iload_n (pc' := 6)  hc rfl rfl rfl ?_
    refine g_iconst (pc' := 7) (v := (2 : Int32)) hc rfl zki_2 rfl ?_
    refine g_icmp_ne (pc' := 10) hc rfl rfl (fun hx => ?_) (fun hx => ?_)
    · replace h := zwp_f h hx
      refine g_aload_n (pc' := 54)  hc rfl rfl rfl rfl ?_
      refine z_getR (pc' := 57)  hc rfl rfl rfl sh_0 rfl rfl ?_
      refine g_aload_n (pc' := 58)  hc rfl rfl rfl rfl ?_
      refine z_getR (pc' := 61)  hc rfl rfl rfl sh_0 rfl rfl ?_
      refine g_aload_n (pc' := 62)  hc rfl rfl rfl rfl ?_
      refine z_getR (pc' := 65)  hc rfl rfl rfl sh_0 rfl rfl ?_
      refine g_aload_n (pc' := 66)  hc rfl rfl rfl rfl ?_
      refine z_getR (pc' := 69)  hc rfl rfl rfl sh_0 rfl rfl ?_
      refine g_aload_n (pc' := 70)  hc rfl rfl rfl rfl ?_
      refine z_getR (pc' := 73)  hc rfl rfl rfl sh_0 rfl rfl ?_
      refine z_virt (as := [.ref 7, .ref 31, .ref 36, .ref 51]) (a := 65) (r := []) hc rfl rfl rfl rfl sh_65 rfl zco_9 rfl rfl rfl ?_
      refine ok_X1_search_65_7_31_36_51 (zdp hd rfl) (zwp_mono (zwp_bind h) ?_)
      rintro ⟨o2, o3, o4, o5, o6, o7, o8, o9, o10, o11, o12, o13, o14, o15⟩ h
      refine z_po (pc' := 76) (st' := []) (v := none) (L' := [(14, none, o6), (17, none, o7), (52, none, o4), (53, some 0, fun _ => (I 53 0)), (53, some 1, fun _ => (I 53 1)), (53, some 3, fun _ => (I 53 3)), (54, none, (I 54)), (55, none, (I 55)), (56, none, (I 56)), (57, none, (I 57)), (65, some 2, fun _ => o3), (65, some 3, fun _ => o2), (66, some 0, fun _ => o11), (66, some 1, fun _ => o13), (66, some 3, fun _ => o9), (67, none, o8), (68, none, o14), (69, none, o10), (70, none, o12)]) (K' := [(53, some 2, fun _ => (J 53 2)), (66, some 2, fun _ => o15), (71, none, o5)]) zco_9 rfl rfl rfl rfl rfl rfl rfl rfl ?_
      refine g_iload_n (pc' := 77)  hc rfl rfl rfl ?_
      refine g_if_ne (pc' := 80) hc rfl rfl (fun hx => ?_) (fun hx => ?_)
      · replace h := zwp_f h hx
        refine g_aload_n (pc' := 91)  hc rfl rfl rfl rfl ?_
        refine z_getR (pc' := 94)  hc rfl rfl rfl sh_0 rfl rfl ?_
        refine z_getI (pc' := 97) (v := o2) hc rfl rfl rfl sh_65 rfl rfl rfl ?_
        replace h := zws h
        exact g_ireturn hc rfl rfl rfl (fun _ => ⟨rfl, rfl⟩) h
      · replace h := zwp_t h hx
        refine g_aload_n (pc' := 81)  hc rfl rfl rfl rfl ?_
        refine z_getR (pc' := 84)  hc rfl rfl rfl sh_0 rfl rfl ?_
        refine z_getI (pc' := 87) (v := o3) hc rfl rfl rfl sh_65 rfl rfl rfl ?_
        refine g_goto hc rfl ?_
        replace h := zws h
        exact g_ireturn hc rfl rfl rfl (fun _ => ⟨rfl, rfl⟩) h
    · replace h := zwp_t h hx
      refine g_aload_n (pc' := 11)  hc rfl rfl rfl rfl ?_
      refine z_getR (pc' := 14)  hc rfl rfl rfl sh_0 rfl rfl ?_
      refine g_aload_n (pc' := 15)  hc rfl rfl rfl rfl ?_
      refine z_getR (pc' := 18)  hc rfl rfl rfl sh_0 rfl rfl ?_
      refine z_virt (as := [.ref 31]) (a := 53) (r := []) hc rfl rfl rfl rfl sh_53 rfl zco_68 rfl rfl rfl ?_
      refine ok_X8_copyFrom_53_31 (zdp hd rfl) (zwp_mono (zwp_bind h) ?_)
      rintro ⟨o16, o17, o18, o19, o20, o21, o22, o23⟩ h
      refine z_po (pc' := 21) (st' := []) (v := none) (L' := [(14, none, (I 14)), (17, none, (I 17)), (52, none, (I 52)), (53, some 0, fun _ => o19), (53, some 1, fun _ => o21), (53, some 3, fun _ => o17), (54, none, o16), (55, none, o22), (56, none, o18), (57, none, o20), (65, some 2, fun _ => (I 65 2)), (65, some 3, fun _ => (I 65 3)), (66, some 0, fun _ => (I 66 0)), (66, some 1, fun _ => (I 66 1)), (66, some 3, fun _ => (I 66 3)), (67, none, (I 67)), (68, none, (I 68)), (69, none, (I 69)), (70, none, (I 70))]) (K' := [(53, some 2, fun _ => o23), (66, some 2, fun _ => (J 66 2)), (71, none, (J 71))]) zco_68 rfl rfl rfl rfl rfl rfl rfl rfl ?_
      refine g_aload_n (pc' := 22)  hc rfl rfl rfl rfl ?_
      refine z_getR (pc' := 25)  hc rfl rfl rfl sh_0 rfl rfl ?_
      refine g_aload_n (pc' := 26)  hc rfl rfl rfl rfl ?_
      refine z_getR (pc' := 29)  hc rfl rfl rfl sh_0 rfl rfl ?_
      refine g_aload_n (pc' := 30)  hc rfl rfl rfl rfl ?_
      refine z_getR (pc' := 33)  hc rfl rfl rfl sh_0 rfl rfl ?_
      refine g_aload_n (pc' := 34)  hc rfl rfl rfl rfl ?_
      refine z_getR (pc' := 37)  hc rfl rfl rfl sh_0 rfl rfl ?_
      refine g_aload_n (pc' := 38)  hc rfl rfl rfl rfl ?_
      refine z_getR (pc' := 41)  hc rfl rfl rfl sh_0 rfl rfl ?_
      refine z_virt (as := [.ref 7, .ref 53, .ref 36, .ref 51]) (a := 65) (r := []) hc rfl rfl rfl rfl sh_65 rfl zco_10 rfl rfl rfl ?_
      refine ok_X1_holdsAll_65_7_53_36_51 (zdp hd rfl) (zwp_mono (zwp_bind h) ?_)
      rintro ⟨r31, o24, o25, o26, o27, o28, o29, o30⟩ h
      refine z_po (pc' := 44) (st' := [.int r31]) (v := (some (.int r31))) (L' := [(14, none, o25), (17, none, o26), (52, none, o24), (53, some 0, fun _ => o29), (53, some 1, fun _ => o21), (53, some 3, fun _ => o17), (54, none, o27), (55, none, o30), (56, none, o28), (57, none, o20), (65, some 2, fun _ => (I 65 2)), (65, some 3, fun _ => (I 65 3)), (66, some 0, fun _ => (I 66 0)), (66, some 1, fun _ => (I 66 1)), (66, some 3, fun _ => (I 66 3)), (67, none, (I 67)), (68, none, (I 68)), (69, none, (I 69)), (70, none, (I 70))]) (K' := [(53, some 2, fun _ => o23), (66, some 2, fun _ => (J 66 2)), (71, none, (J 71))]) zco_10 rfl rfl rfl rfl rfl rfl rfl rfl ?_
      refine g_if_eq (pc' := 47) hc rfl rfl (fun hx => ?_) (fun hx => ?_)
      · replace h := zwp_t h hx
        refine g_iconst (pc' := 52) (v := (0 : Int32)) hc rfl zki_0 rfl ?_
        replace h := zws h
        exact g_ireturn hc rfl rfl rfl (fun _ => ⟨rfl, rfl⟩) h
      · replace h := zwp_f h hx
        refine g_iconst (pc' := 48) (v := (1 : Int32)) hc rfl zki_1 rfl ?_
        refine g_goto hc rfl ?_
        replace h := zws h
        exact g_ireturn hc rfl rfl rfl (fun _ => ⟨rfl, rfl⟩) h
  · replace h := zws h
    exact z_pox (L' := [(14, none, (I 14)), (17, none, (I 17)), (52, none, (I 52)), (53, some 0, fun _ => (I 53 0)), (53, some 1, fun _ => (I 53 1)), (53, some 3, fun _ => (I 53 3)), (54, none, (I 54)), (55, none, (I 55)), (56, none, (I 56)), (57, none, (I 57)), (65, some 2, fun _ => (I 65 2)), (65, some 3, fun _ => (I 65 3)), (66, some 0, fun _ => (I 66 0)), (66, some 1, fun _ => (I 66 1)), (66, some 3, fun _ => (I 66 3)), (67, none, (I 67)), (68, none, (I 68)), (69, none, (I 69)), (70, none, (I 70))]) (K' := [(53, some 2, fun _ => (J 53 2)), (66, some 2, fun _ => (J 66 2)), (71, none, (J 71))]) rfl rfl rfl rfl rfl rfl rfl h
set_option maxHeartbeats 20000000 in
set_option maxRecDepth 4000 in
theorem ok_L_ahead_0_107_p {I : pI} {J : pJ} {a1 : Int32} {Q : pQ} {d : Nat} (hd : 9 ≤ d) (h : zwp (f_L_ahead a1 1 (J 107) (I 39) (I 38) (I 40) (I 36 3) (I 54) (I 53 3) (I 56) (I 53 0) (I 57) (I 53 1) (I 55) (J 53 2) (I 65 3) (I 65 2) (J 71) (I 67) (I 66 3) (I 69) (I 66 0) (I 70) (I 66 1) (I 68) (J 66 2) (I 52) (I 32) (I 31 3) (I 34) (I 31 0) (I 35) (I 31 1) (I 33) (J 31 2) (I 7 12) (I 7 3) (I 15) (I 13 2) (I 14) (I 7 1) (I 18) (I 16 2) (I 17) (I 12) (I 7 9) (I 9) (I 10) (I 7 0)) (fun w => match w with | (r, o0, o1, o2, o3, o4, o5, o6, o7, o8, o9, o10, o11, o12, o13, o14, o15, o16, o17, o18, o19, o20, o21, o22) => Q (.inl (some (.int r))) (zS 7 19 I [(14, none, o21), (17, none, o22), (52, none, o20), (53, some 0, fun _ => o4), (53, some 1, fun _ => o6), (53, some 3, fun _ => o2), (54, none, o1), (55, none, o7), (56, none, o3), (57, none, o5), (65, some 2, fun _ => o10), (65, some 3, fun _ => o9), (66, some 0, fun _ => o15), (66, some 1, fun _ => o17), (66, some 3, fun _ => o13), (67, none, o12), (68, none, o18), (69, none, o14), (70, none, o16)] J [(53, some 2, fun _ => o8), (66, some 2, fun _ => o19), (71, none, o11), (107, none, o0)]))) : pm_call M cost zext d 291 [.ref 0, .int a1, .ref 107] (pm_st 108 (shp 7 19) I J) Q := by
  obtain ⟨d, rfl⟩ := zd1 hd rfl
  have hc := pm_call_m (M := M) (cost := cost) zext_m d
  refine z_in (L := [(14, none, (I 14)), (17, none, (I 17)), (52, none, (I 52)), (53, some 0, fun _ => (I 53 0)), (53, some 1, fun _ => (I 53 1)), (53, some 3, fun _ => (I 53 3)), (54, none, (I 54)), (55, none, (I 55)), (56, none, (I 56)), (57, none, (I 57)), (65, some 2, fun _ => (I 65 2)), (65, some 3, fun _ => (I 65 3)), (66, some 0, fun _ => (I 66 0)), (66, some 1, fun _ => (I 66 1)), (66, some 3, fun _ => (I 66 3)), (67, none, (I 67)), (68, none, (I 68)), (69, none, (I 69)), (70, none, (I 70))]) (K := [(53, some 2, fun _ => (J 53 2)), (66, some 2, fun _ => (J 66 2)), (71, none, (J 71)), (107, none, (J 107))]) (ls := [some (.ref 0), some (.int a1), some (.ref 107), none]) zmt_291 zco_291 rfl rfl (zid_a (zid_a (zid_a (zid_s (zid_s (zid_s (zid_a (zid_a (zid_a (zid_a (zid_s (zid_s (zid_s (zid_s (zid_s (zid_a (zid_a (zid_a (zid_a zid_n))))))))))))))))))) (zid_s (zid_s (zid_a (zid_a zid_n)))) ?_
  delta f_L_ahead at h
  refine g_aload_n (pc' := 1)  hc rfl rfl rfl rfl ?_
  refine g_iconst (pc' := 2) (v := (0 : Int32)) hc rfl zki_0 rfl ?_
  refine g_aload_n (pc' := 3)  hc rfl rfl rfl rfl ?_
  refine g_iload_n (pc' := 4)  hc rfl rfl rfl ?_
  refine z_virt (as := [.int a1]) (a := 0) (r := [.int (0 : Int32), .ref 107]) hc rfl rfl rfl rfl sh_0 rfl zco_122 rfl rfl rfl ?_
  refine ok_X11_ahead_0_p (zdp hd rfl) (zwp_mono (zwp_bind h) ?_)
  rintro ⟨(r23 | E24), o1, o2, o3, o4, o5, o6, o7, o8, o9, o10, o11, o12, o13, o14, o15, o16, o17, o18, o19, o20, o21, o22⟩ h
  · refine z_po (pc' := 7) (st' := [.int r23, .int (0 : Int32), .ref 107]) (v := (some (.int r23))) (L' := [(14, none, o21), (17, none, o22), (52, none, o20), (53, some 0, fun _ => o4), (53, some 1, fun _ => o6), (53, some 3, fun _ => o2), (54, none, o1), (55, none, o7), (56, none, o3), (57, none, o5), (65, some 2, fun _ => o10), (65, some 3, fun _ => o9), (66, some 0, fun _ => o15), (66, some 1, fun _ => o17), (66, some 3, fun _ => o13), (67, none, o12), (68, none, o18), (69, none, o14), (70, none, o16)]) (K' := [(53, some 2, fun _ => o8), (66, some 2, fun _ => o19), (71, none, o11), (107, none, (J 107))]) zco_122 rfl rfl rfl rfl rfl rfl rfl rfl ?_
    refine g_i2l (pc' := 8)  hc rfl rfl ?_
    have hb := (zwp_bnd h).1
    replace h := (zwp_bnd h).2
    refine z_lastore (pc' := 9) (g := (J 107)) (K' := [(53, some 2, fun _ => o8), (66, some 2, fun _ => o19), (71, none, o11), (107, none, (vp_updL ((J 107)) (0 : Int32).toNatClampNeg r23.toInt64))]) hc rfl rfl sh_107 hb rfl rfl rfl rfl ?_
    refine g_goto hc rfl ?_
    refine g_iconst (pc' := 16) (v := (0 : Int32)) hc rfl zki_0 rfl ?_
    replace h := zws h
    exact g_ireturn hc rfl rfl rfl (fun _ => ⟨rfl, rfl⟩) h
  · by_cases hE : E24 = x_N
    · replace h := zwp_t h hE
      replace h := zws h
      exact z_poh (L' := [(14, none, o21), (17, none, o22), (52, none, o20), (53, some 0, fun _ => o4), (53, some 1, fun _ => o6), (53, some 3, fun _ => o2), (54, none, o1), (55, none, o7), (56, none, o3), (57, none, o5), (65, some 2, fun _ => o10), (65, some 3, fun _ => o9), (66, some 0, fun _ => o15), (66, some 1, fun _ => o17), (66, some 3, fun _ => o13), (67, none, o12), (68, none, o18), (69, none, o14), (70, none, o16)]) (K' := [(53, some 2, fun _ => o8), (66, some 2, fun _ => o19), (71, none, o11), (107, none, (J 107))]) (zhd1 (e := 9) (pc := 4) rfl hE) rfl rfl rfl rfl rfl rfl rfl rfl h
    replace h := zwp_f h hE
    exact (zwn h).elim
set_option maxRecDepth 4000 in
theorem ok_X11_look_0_p {I : pI} {J : pJ} {a1 : Int32} {Q : pQ} {d : Nat} (hd : 8 ≤ d) (h : zwp (f_X11_look a1 (I 39) (I 38) (I 40) (I 36 3) (I 65 3) (I 65 2) (J 71) (I 67) (I 66 3) (I 69) (I 66 0) (I 70) (I 66 1) (I 68) (J 66 2) (I 52) (I 32) (I 31 3) (I 34) (I 31 0) (I 35) (I 31 1) (I 33) (J 31 2) (I 7 12) (I 7 3) (I 15) (I 13 2) (I 14) (I 7 1) (I 18) (I 16 2) (I 17) (I 12) (I 7 9) (I 9) (I 10) (I 7 0)) (fun w => match w with | (.inl r, o0, o1, o2, o3, o4, o5, o6, o7, o8, o9, o10, o11, o12, o13) => Q (.inl (some (.int r))) (zS 7 19 I [(14, none, o12), (17, none, o13), (52, none, o11), (65, some 2, fun _ => o1), (65, some 3, fun _ => o0), (66, some 0, fun _ => o6), (66, some 1, fun _ => o8), (66, some 3, fun _ => o4), (67, none, o3), (68, none, o9), (69, none, o5), (70, none, o7)] J [(66, some 2, fun _ => o10), (71, none, o2)]) | (.inr E, o0, o1, o2, o3, o4, o5, o6, o7, o8, o9, o10, o11, o12, o13) => Q (.inr E) (zS 7 19 I [(14, none, o12), (17, none, o13), (52, none, o11), (65, some 2, fun _ => o1), (65, some 3, fun _ => o0), (66, some 0, fun _ => o6), (66, some 1, fun _ => o8), (66, some 3, fun _ => o4), (67, none, o3), (68, none, o9), (69, none, o5), (70, none, o7)] J [(66, some 2, fun _ => o10), (71, none, o2)]))) : pm_call M cost zext d 123 [.ref 0, .int a1] (pm_st 108 (shp 7 19) I J) Q := by
  obtain ⟨d, rfl⟩ := zd1 hd rfl
  have hc := pm_call_m (M := M) (cost := cost) zext_m d
  refine z_in (L := [(14, none, (I 14)), (17, none, (I 17)), (52, none, (I 52)), (65, some 2, fun _ => (I 65 2)), (65, some 3, fun _ => (I 65 3)), (66, some 0, fun _ => (I 66 0)), (66, some 1, fun _ => (I 66 1)), (66, some 3, fun _ => (I 66 3)), (67, none, (I 67)), (68, none, (I 68)), (69, none, (I 69)), (70, none, (I 70))]) (K := [(66, some 2, fun _ => (J 66 2)), (71, none, (J 71))]) (ls := [some (.ref 0), some (.int a1), none, none, none, none]) zmt_123 zco_123 rfl rfl (zid_a (zid_a (zid_a (zid_s (zid_s (zid_s (zid_s (zid_s (zid_a (zid_a (zid_a (zid_a zid_n)))))))))))) (zid_s (zid_a zid_n)) ?_
  delta f_X11_look at h
  refine g_iload_n (pc' := 1)  hc rfl rfl rfl ?_
  refine g_iconst (pc' := 2) (v := (1 : Int32)) hc rfl zki_1 rfl ?_
  refine z_stat (as := [.int a1, .int (1 : Int32)]) (r := []) hc rfl rfl rfl rfl zco_135 rfl rfl rfl ?_
  refine ok_X11_checkWhat (zdp hd rfl) (zwp_mono (zwp_bind h) ?_)
  rintro (⟨⟩ | E1) h
  · refine z_po (pc' := 5) (st' := []) (v := none) (L' := [(14, none, (I 14)), (17, none, (I 17)), (52, none, (I 52)), (65, some 2, fun _ => (I 65 2)), (65, some 3, fun _ => (I 65 3)), (66, some 0, fun _ => (I 66 0)), (66, some 1, fun _ => (I 66 1)), (66, some 3, fun _ => (I 66 3)), (67, none, (I 67)), (68, none, (I 68)), (69, none, (I 69)), (70, none, (I 70))]) (K' := [(66, some 2, fun _ => (J 66 2)), (71, none, (J 71))]) zco_135 rfl rfl rfl rfl rfl rfl rfl rfl ?_
    refine g_aload_n (pc' := 6)  hc rfl rfl rfl rfl ?_
    refine z_getR (pc' := 9)  hc rfl rfl rfl sh_0 rfl rfl ?_
    refine g_aload_n (pc' := 10)  hc rfl rfl rfl rfl ?_
    refine z_getR (pc' := 13)  hc rfl rfl rfl sh_0 rfl rfl ?_
    refine g_aload_n (pc' := 14)  hc rfl rfl rfl rfl ?_
    refine z_getR (pc' := 17)  hc rfl rfl rfl sh_0 rfl rfl ?_
    refine g_aload_n (pc' := 18)  hc rfl rfl rfl rfl ?_
    refine z_getR (pc' := 21)  hc rfl rfl rfl sh_0 rfl rfl ?_
    refine g_aload_n (pc' := 22)  hc rfl rfl rfl rfl ?_
    refine z_getR (pc' := 25)  hc rfl rfl rfl sh_0 rfl rfl ?_
    refine z_virt (as := [.ref 7, .ref 31, .ref 36, .ref 51]) (a := 65) (r := []) hc rfl rfl rfl rfl sh_65 rfl zco_9 rfl rfl rfl ?_
    refine ok_X1_search_65_7_31_36_51 (zdp hd rfl) (zwp_mono (zwp_bind h) ?_)
    rintro ⟨o2, o3, o4, o5, o6, o7, o8, o9, o10, o11, o12, o13, o14, o15⟩ h
    refine z_po (pc' := 28) (st' := []) (v := none) (L' := [(14, none, o6), (17, none, o7), (52, none, o4), (65, some 2, fun _ => o3), (65, some 3, fun _ => o2), (66, some 0, fun _ => o11), (66, some 1, fun _ => o13), (66, some 3, fun _ => o9), (67, none, o8), (68, none, o14), (69, none, o10), (70, none, o12)]) (K' := [(66, some 2, fun _ => o15), (71, none, o5)]) zco_9 rfl rfl rfl rfl rfl rfl rfl rfl ?_
    refine g_iconst (pc' := 29) (v := (0 : Int32)) hc rfl zki_0 rfl ?_
    refine g_istore_n (pc' := 30) (ls1 := [some (.ref 0), some (.int a1), some (.int (0 : Int32)), none, none, none]) hc rfl (zlt rfl) rfl rfl ?_
    refine g_iconst (pc' := 31) (v := (-1 : Int32)) hc rfl zki_m1 rfl ?_
    refine g_istore_n (pc' := 32) (ls1 := [some (.ref 0), some (.int a1), some (.int (0 : Int32)), some (.int (-1 : Int32)), none, none]) hc rfl (zlt rfl) rfl rfl ?_
    refine g_iconst (pc' := 33) (v := (0 : Int32)) hc rfl zki_0 rfl ?_
    refine g_istore (pc' := 35) (ls1 := [some (.ref 0), some (.int a1), some (.int (0 : Int32)), some (.int (-1 : Int32)), some (.int (0 : Int32)), none]) hc rfl (zlt rfl) rfl rfl ?_
    refine zjn (G := (fun (g : Int32 × Int32) => match g with | (y20, y21) => ∀ z22 : Option Value, znl z22 = true → ∀ z23 : Option Value, znl z23 = true → pm_ev C_X11_look (d + 1) (pm_call M cost zext d) cost (false, false) 108 1 6 Q 80 [some (.ref 0), some (.int a1), some (.int y20), some (.int y21), z22, z23] [] 0 0 (zS 7 19 I [(14, none, o6), (17, none, o7), (52, none, o4), (65, some 2, fun _ => o3), (65, some 3, fun _ => o2), (66, some 0, fun _ => o11), (66, some 1, fun _ => o13), (66, some 3, fun _ => o9), (67, none, o8), (68, none, o14), (69, none, o10), (70, none, o12)] J [(66, some 2, fun _ => o15), (71, none, o5)]))) (zwp_bind h) ?_ (fun h => ?_)
    · rintro ⟨y20, y21⟩ h z22 hz22 z23 hz23
      refine g_iload_n (pc' := 81)  hc rfl rfl rfl ?_
      refine g_if_ne (pc' := 84) hc rfl rfl (fun hx => ?_) (fun hx => ?_)
      · replace h := zwp_f h hx
        refine g_iload_n (pc' := 89)  hc rfl rfl rfl ?_
        replace h := zws h
        exact g_ireturn hc rfl rfl rfl (fun _ => ⟨rfl, rfl⟩) h
      · replace h := zwp_t h hx
        refine g_iload_n (pc' := 85)  hc rfl rfl rfl ?_
        refine g_goto hc rfl ?_
        replace h := zws h
        exact g_ireturn hc rfl rfl rfl (fun _ => ⟨rfl, rfl⟩) h
    refine zitr_ev (G := (fun (g : Int32 × Int32 × Int32) => match g with | (x16, x17, x18) => ∀ z19 : Option Value, znl z19 = true → pm_ev C_X11_look (d + 1) (pm_call M cost zext d) cost (false, false) 108 1 6 Q 35 [some (.ref 0), some (.int a1), some (.int x16), some (.int x17), some (.int x18), z19] [] 0 0 (zS 7 19 I [(14, none, o6), (17, none, o7), (52, none, o4), (65, some 2, fun _ => o3), (65, some 3, fun _ => o2), (66, some 0, fun _ => o11), (66, some 1, fun _ => o13), (66, some 3, fun _ => o9), (67, none, o8), (68, none, o14), (69, none, o10), (70, none, o12)] J [(66, some 2, fun _ => o15), (71, none, o5)]))) ?_ zFU ((0 : Int32), (-1 : Int32), (0 : Int32)) h none rfl
    rintro ⟨x16, x17, x18⟩ h z19 hz19
    refine g_iload (pc' := 37)  hc rfl rfl rfl ?_
    refine g_aload_n (pc' := 38)  hc rfl rfl rfl rfl ?_
    refine z_getR (pc' := 41)  hc rfl rfl rfl sh_0 rfl rfl ?_
    refine z_getI (pc' := 44) (v := (I 7 3)) hc rfl rfl rfl sh_7 rfl rfl rfl ?_
    refine g_icmp_ge (pc' := 47) hc rfl rfl (fun hx => ?_) (fun hx => ?_)
    · replace h := zwp_t h hx
      replace h := zwp_r h
      exact h (some (.int x18)) rfl z19 hz19
    · replace h := zwp_f h hx
      refine g_aload_n (pc' := 48)  hc rfl rfl rfl rfl ?_
      refine z_getR (pc' := 51)  hc rfl rfl rfl sh_0 rfl rfl ?_
      refine z_getR (pc' := 54)  hc rfl rfl rfl sh_65 rfl rfl ?_
      refine g_iload (pc' := 56)  hc rfl rfl rfl ?_
      have hb := (zwp_bnd h).1
      replace h := (zwp_bnd h).2
      refine z_laload (pc' := 57) (v := (o5 x18.toNatClampNeg)) hc rfl rfl sh_71 hb rfl rfl ?_
      refine z_stat (as := [.long (o5 x18.toNatClampNeg)]) (r := []) hc rfl rfl rfl rfl zco_266 rfl rfl rfl ?_
      refine ok_J13_bitCount_95d88 (zdp hd rfl) (zwp_mono (zwp_bind h) ?_)
      rintro r24 h
      refine z_po (pc' := 60) (st' := [.int r24]) (v := (some (.int r24))) (L' := [(14, none, o6), (17, none, o7), (52, none, o4), (65, some 2, fun _ => o3), (65, some 3, fun _ => o2), (66, some 0, fun _ => o11), (66, some 1, fun _ => o13), (66, some 3, fun _ => o9), (67, none, o8), (68, none, o14), (69, none, o10), (70, none, o12)]) (K' := [(66, some 2, fun _ => o15), (71, none, o5)]) zco_266 rfl rfl rfl rfl rfl rfl rfl rfl ?_
      refine g_istore (pc' := 62) (ls1 := [some (.ref 0), some (.int a1), some (.int x16), some (.int x17), some (.int x18), some (.int r24)]) hc rfl (zlt rfl) rfl rfl ?_
      refine g_iload (pc' := 64)  hc rfl rfl rfl ?_
      refine g_iload_n (pc' := 65)  hc rfl rfl rfl ?_
      refine g_icmp_le (pc' := 68) hc rfl rfl (fun hx => ?_) (fun hx => ?_)
      · replace h := zwp_t h hx
        refine g_iinc (pc' := 77) (ls1 := [some (.ref 0), some (.int a1), some (.int x16), some (.int x17), some (.int (x18 + (1 : Int32))), some (.int r24)]) hc rfl rfl zki_1 (zlt rfl) rfl rfl ?_
        refine g_goto hc rfl ?_
        replace h := zwp_l h
        exact h (some (.int r24)) rfl
      · replace h := zwp_f h hx
        refine g_iload (pc' := 70)  hc rfl rfl rfl ?_
        refine g_istore_n (pc' := 71) (ls1 := [some (.ref 0), some (.int a1), some (.int r24), some (.int x17), some (.int x18), some (.int r24)]) hc rfl (zlt rfl) rfl rfl ?_
        refine g_iload (pc' := 73)  hc rfl rfl rfl ?_
        refine g_istore_n (pc' := 74) (ls1 := [some (.ref 0), some (.int a1), some (.int r24), some (.int x18), some (.int x18), some (.int r24)]) hc rfl (zlt rfl) rfl rfl ?_
        refine g_iinc (pc' := 77) (ls1 := [some (.ref 0), some (.int a1), some (.int r24), some (.int x18), some (.int (x18 + (1 : Int32))), some (.int r24)]) hc rfl rfl zki_1 (zlt rfl) rfl rfl ?_
        refine g_goto hc rfl ?_
        replace h := zwp_l h
        exact h (some (.int r24)) rfl
  · replace h := zws h
    exact z_pox (L' := [(14, none, (I 14)), (17, none, (I 17)), (52, none, (I 52)), (65, some 2, fun _ => (I 65 2)), (65, some 3, fun _ => (I 65 3)), (66, some 0, fun _ => (I 66 0)), (66, some 1, fun _ => (I 66 1)), (66, some 3, fun _ => (I 66 3)), (67, none, (I 67)), (68, none, (I 68)), (69, none, (I 69)), (70, none, (I 70))]) (K' := [(66, some 2, fun _ => (J 66 2)), (71, none, (J 71))]) rfl rfl rfl rfl rfl rfl rfl h
set_option maxRecDepth 4000 in
theorem ok_L_look_0_107_p {I : pI} {J : pJ} {a1 : Int32} {Q : pQ} {d : Nat} (hd : 9 ≤ d) (h : zwp (f_L_look a1 1 (J 107) (I 39) (I 38) (I 40) (I 36 3) (I 65 3) (I 65 2) (J 71) (I 67) (I 66 3) (I 69) (I 66 0) (I 70) (I 66 1) (I 68) (J 66 2) (I 52) (I 32) (I 31 3) (I 34) (I 31 0) (I 35) (I 31 1) (I 33) (J 31 2) (I 7 12) (I 7 3) (I 15) (I 13 2) (I 14) (I 7 1) (I 18) (I 16 2) (I 17) (I 12) (I 7 9) (I 9) (I 10) (I 7 0)) (fun w => match w with | (r, o0, o1, o2, o3, o4, o5, o6, o7, o8, o9, o10, o11, o12, o13, o14) => Q (.inl (some (.int r))) (zS 7 19 I [(14, none, o13), (17, none, o14), (52, none, o12), (65, some 2, fun _ => o2), (65, some 3, fun _ => o1), (66, some 0, fun _ => o7), (66, some 1, fun _ => o9), (66, some 3, fun _ => o5), (67, none, o4), (68, none, o10), (69, none, o6), (70, none, o8)] J [(66, some 2, fun _ => o11), (71, none, o3), (107, none, o0)]))) : pm_call M cost zext d 292 [.ref 0, .int a1, .ref 107] (pm_st 108 (shp 7 19) I J) Q := by
  obtain ⟨d, rfl⟩ := zd1 hd rfl
  have hc := pm_call_m (M := M) (cost := cost) zext_m d
  refine z_in (L := [(14, none, (I 14)), (17, none, (I 17)), (52, none, (I 52)), (65, some 2, fun _ => (I 65 2)), (65, some 3, fun _ => (I 65 3)), (66, some 0, fun _ => (I 66 0)), (66, some 1, fun _ => (I 66 1)), (66, some 3, fun _ => (I 66 3)), (67, none, (I 67)), (68, none, (I 68)), (69, none, (I 69)), (70, none, (I 70))]) (K := [(66, some 2, fun _ => (J 66 2)), (71, none, (J 71)), (107, none, (J 107))]) (ls := [some (.ref 0), some (.int a1), some (.ref 107), none]) zmt_292 zco_292 rfl rfl (zid_a (zid_a (zid_a (zid_s (zid_s (zid_s (zid_s (zid_s (zid_a (zid_a (zid_a (zid_a zid_n)))))))))))) (zid_s (zid_a (zid_a zid_n))) ?_
  delta f_L_look at h
  refine g_aload_n (pc' := 1)  hc rfl rfl rfl rfl ?_
  refine g_iconst (pc' := 2) (v := (0 : Int32)) hc rfl zki_0 rfl ?_
  refine g_aload_n (pc' := 3)  hc rfl rfl rfl rfl ?_
  refine g_iload_n (pc' := 4)  hc rfl rfl rfl ?_
  refine z_virt (as := [.int a1]) (a := 0) (r := [.int (0 : Int32), .ref 107]) hc rfl rfl rfl rfl sh_0 rfl zco_123 rfl rfl rfl ?_
  refine ok_X11_look_0_p (zdp hd rfl) (zwp_mono (zwp_bind h) ?_)
  rintro ⟨(r15 | E16), o1, o2, o3, o4, o5, o6, o7, o8, o9, o10, o11, o12, o13, o14⟩ h
  · refine z_po (pc' := 7) (st' := [.int r15, .int (0 : Int32), .ref 107]) (v := (some (.int r15))) (L' := [(14, none, o13), (17, none, o14), (52, none, o12), (65, some 2, fun _ => o2), (65, some 3, fun _ => o1), (66, some 0, fun _ => o7), (66, some 1, fun _ => o9), (66, some 3, fun _ => o5), (67, none, o4), (68, none, o10), (69, none, o6), (70, none, o8)]) (K' := [(66, some 2, fun _ => o11), (71, none, o3), (107, none, (J 107))]) zco_123 rfl rfl rfl rfl rfl rfl rfl rfl ?_
    refine g_i2l (pc' := 8)  hc rfl rfl ?_
    have hb := (zwp_bnd h).1
    replace h := (zwp_bnd h).2
    refine z_lastore (pc' := 9) (g := (J 107)) (K' := [(66, some 2, fun _ => o11), (71, none, o3), (107, none, (vp_updL ((J 107)) (0 : Int32).toNatClampNeg r15.toInt64))]) hc rfl rfl sh_107 hb rfl rfl rfl rfl ?_
    refine g_goto hc rfl ?_
    refine g_iconst (pc' := 16) (v := (0 : Int32)) hc rfl zki_0 rfl ?_
    replace h := zws h
    exact g_ireturn hc rfl rfl rfl (fun _ => ⟨rfl, rfl⟩) h
  · by_cases hE : E16 = x_N
    · replace h := zwp_t h hE
      replace h := zws h
      exact z_poh (L' := [(14, none, o13), (17, none, o14), (52, none, o12), (65, some 2, fun _ => o2), (65, some 3, fun _ => o1), (66, some 0, fun _ => o7), (66, some 1, fun _ => o9), (66, some 3, fun _ => o5), (67, none, o4), (68, none, o10), (69, none, o6), (70, none, o8)]) (K' := [(66, some 2, fun _ => o11), (71, none, o3), (107, none, (J 107))]) (zhd1 (e := 9) (pc := 4) rfl hE) rfl rfl rfl rfl rfl rfl rfl rfl h
    replace h := zwp_f h hE
    exact (zwn h).elim
set_option maxRecDepth 4000 in
theorem ok_X11_clouds_0_p {I : pI} {J : pJ} {a1 : Int32} {a2 : Int32} {a3 : Int32} {a4 : Int32} {Q : pQ} {d : Nat} (hd : 8 ≤ d) (h : zwp (f_X11_clouds a1 a2 a3 a4 (I 54) (I 53 3) (I 56) (I 53 0) (I 57) (I 53 1) (I 55) (J 53 2) (I 52) (I 32) (I 31 3) (I 34) (I 31 0) (I 35) (I 31 1) (I 33) (J 31 2) (I 7 3) (I 15) (I 13 2) (I 14) (I 7 1) (I 18) (I 16 2) (I 17) (I 12) (I 7 9) (I 9) (I 10) (I 7 0)) (fun w => match w with | (.inl r, o0, o1, o2, o3, o4, o5, o6, o7, o8, o9, o10) => Q (.inl (some (.int r))) (zS 7 19 I [(14, none, o9), (17, none, o10), (52, none, o8), (53, some 0, fun _ => o3), (53, some 1, fun _ => o5), (53, some 3, fun _ => o1), (54, none, o0), (55, none, o6), (56, none, o2), (57, none, o4)] J [(53, some 2, fun _ => o7)]) | (.inr E, o0, o1, o2, o3, o4, o5, o6, o7, o8, o9, o10) => Q (.inr E) (zS 7 19 I [(14, none, o9), (17, none, o10), (52, none, o8), (53, some 0, fun _ => o3), (53, some 1, fun _ => o5), (53, some 3, fun _ => o1), (54, none, o0), (55, none, o6), (56, none, o2), (57, none, o4)] J [(53, some 2, fun _ => o7)]))) : pm_call M cost zext d 124 [.ref 0, .int a1, .int a2, .int a3, .int a4] (pm_st 108 (shp 7 19) I J) Q := by
  obtain ⟨d, rfl⟩ := zd1 hd rfl
  have hc := pm_call_m (M := M) (cost := cost) zext_m d
  refine z_in (L := [(14, none, (I 14)), (17, none, (I 17)), (52, none, (I 52)), (53, some 0, fun _ => (I 53 0)), (53, some 1, fun _ => (I 53 1)), (53, some 3, fun _ => (I 53 3)), (54, none, (I 54)), (55, none, (I 55)), (56, none, (I 56)), (57, none, (I 57))]) (K := [(53, some 2, fun _ => (J 53 2))]) (ls := [some (.ref 0), some (.int a1), some (.int a2), some (.int a3), some (.int a4), none, none, none, none, none]) zmt_124 zco_124 rfl rfl (zid_a (zid_a (zid_a (zid_s (zid_s (zid_s (zid_a (zid_a (zid_a (zid_a zid_n)))))))))) (zid_s zid_n) ?_
  delta f_X11_clouds at h
  refine g_aload_n (pc' := 1)  hc rfl rfl rfl rfl ?_
  refine g_iload_n (pc' := 2)  hc rfl rfl rfl ?_
  refine z_virt (as := [.int a1]) (a := 0) (r := []) hc rfl rfl rfl rfl sh_0 rfl zco_133 rfl rfl rfl ?_
  refine ok_X11_checkFigure_0_p (zdp hd rfl) (zwp_mono (zwp_bind h) ?_)
  rintro (⟨⟩ | E1) h
  · refine z_po (pc' := 5) (st' := []) (v := none) (L' := [(14, none, (I 14)), (17, none, (I 17)), (52, none, (I 52)), (53, some 0, fun _ => (I 53 0)), (53, some 1, fun _ => (I 53 1)), (53, some 3, fun _ => (I 53 3)), (54, none, (I 54)), (55, none, (I 55)), (56, none, (I 56)), (57, none, (I 57))]) (K' := [(53, some 2, fun _ => (J 53 2))]) zco_133 rfl rfl rfl rfl rfl rfl rfl rfl ?_
    refine g_aload_n (pc' := 6)  hc rfl rfl rfl rfl ?_
    refine g_iload_n (pc' := 7)  hc rfl rfl rfl ?_
    refine z_virt (as := [.int a2]) (a := 0) (r := []) hc rfl rfl rfl rfl sh_0 rfl zco_134 rfl rfl rfl ?_
    refine ok_X11_checkCell_0_p (zdp hd rfl) (zwp_mono (zwp_bind h) ?_)
    rintro (⟨⟩ | E2) h
    · refine z_po (pc' := 10) (st' := []) (v := none) (L' := [(14, none, (I 14)), (17, none, (I 17)), (52, none, (I 52)), (53, some 0, fun _ => (I 53 0)), (53, some 1, fun _ => (I 53 1)), (53, some 3, fun _ => (I 53 3)), (54, none, (I 54)), (55, none, (I 55)), (56, none, (I 56)), (57, none, (I 57))]) (K' := [(53, some 2, fun _ => (J 53 2))]) zco_134 rfl rfl rfl rfl rfl rfl rfl rfl ?_
      refine g_iload_n (pc' := 11)  hc rfl rfl rfl ?_
      refine g_iconst (pc' := 12) (v := (1 : Int32)) hc rfl zki_1 rfl ?_
      refine g_iconst (pc' := 13) (v := (5 : Int32)) hc rfl zki_5 rfl ?_
      refine z_stat (as := [.int a3, .int (1 : Int32), .int (5 : Int32)]) (r := []) hc rfl rfl rfl rfl zco_136 rfl rfl rfl ?_
      refine ok_X11_checkHours (zdp hd rfl) (zwp_mono (zwp_bind h) ?_)
      rintro (⟨⟩ | E3) h
      · refine z_po (pc' := 16) (st' := []) (v := none) (L' := [(14, none, (I 14)), (17, none, (I 17)), (52, none, (I 52)), (53, some 0, fun _ => (I 53 0)), (53, some 1, fun _ => (I 53 1)), (53, some 3, fun _ => (I 53 3)), (54, none, (I 54)), (55, none, (I 55)), (56, none, (I 56)), (57, none, (I 57))]) (K' := [(53, some 2, fun _ => (J 53 2))]) zco_136 rfl rfl rfl rfl rfl rfl rfl rfl ?_
        refine g_iload (pc' := 18)  hc rfl rfl rfl ?_
        refine g_iconst (pc' := 19) (v := (0 : Int32)) hc rfl zki_0 rfl ?_
        refine g_bipush (pc' := 21) (v := (10 : Int32)) hc rfl zkb_10 rfl ?_
        refine z_stat (as := [.int a4, .int (0 : Int32), .int (10 : Int32)]) (r := []) hc rfl rfl rfl rfl zco_136 rfl rfl rfl ?_
        refine ok_X11_checkHours (zdp hd rfl) (zwp_mono (zwp_bind h) ?_)
        rintro (⟨⟩ | E4) h
        · refine z_po (pc' := 24) (st' := []) (v := none) (L' := [(14, none, (I 14)), (17, none, (I 17)), (52, none, (I 52)), (53, some 0, fun _ => (I 53 0)), (53, some 1, fun _ => (I 53 1)), (53, some 3, fun _ => (I 53 3)), (54, none, (I 54)), (55, none, (I 55)), (56, none, (I 56)), (57, none, (I 57))]) (K' := [(53, some 2, fun _ => (J 53 2))]) zco_136 rfl rfl rfl rfl rfl rfl rfl rfl ?_
          refine g_iconst (pc' := 25) (v := (0 : Int32)) hc rfl zki_0 rfl ?_
          refine g_istore (pc' := 27) (ls1 := [some (.ref 0), some (.int a1), some (.int a2), some (.int a3), some (.int a4), some (.int (0 : Int32)), none, none, none, none]) hc rfl (zlt rfl) rfl rfl ?_
          refine g_iconst (pc' := 28) (v := (0 : Int32)) hc rfl zki_0 rfl ?_
          refine g_istore (pc' := 30) (ls1 := [some (.ref 0), some (.int a1), some (.int a2), some (.int a3), some (.int a4), some (.int (0 : Int32)), some (.int (0 : Int32)), none, none, none]) hc rfl (zlt rfl) rfl rfl ?_
          refine zjn (G := (fun (g : Int32 × (Nat → Int32) × Int32 × (Nat → Int32) × Int32 × (Nat → Int32) × Int32 × (Nat → Int32) × Int64 × (Nat → Int32) × (Nat → Int32) × (Nat → Int32)) => match g with | (y21, y26, y27, y28, y29, y30, y31, y32, y33, y34, y35, y36) => ∀ z22 : Option Value, znl z22 = true → ∀ z23 : Option Value, znl z23 = true → ∀ z24 : Option Value, znl z24 = true → ∀ z25 : Option Value, znl z25 = true → pm_ev C_X11_clouds (d + 1) (pm_call M cost zext d) cost (false, false) 108 1 6 Q 147 [some (.ref 0), some (.int a1), some (.int a2), some (.int a3), some (.int a4), some (.int y21), z22, z23, z24, z25] [] 0 0 (zS 7 19 I [(14, none, y35), (17, none, y36), (52, none, y34), (53, some 0, fun _ => y29), (53, some 1, fun _ => y31), (53, some 3, fun _ => y27), (54, none, y26), (55, none, y32), (56, none, y28), (57, none, y30)] J [(53, some 2, fun _ => y33)]))) (zwp_bind h) ?_ (fun h => ?_)
          · rintro ⟨y21, y26, y27, y28, y29, y30, y31, y32, y33, y34, y35, y36⟩ h z22 hz22 z23 hz23 z24 hz24 z25 hz25
            refine g_iload (pc' := 149)  hc rfl rfl rfl ?_
            replace h := zws h
            exact g_ireturn hc rfl rfl rfl (fun _ => ⟨rfl, rfl⟩) h
          refine zitr_ev (G := (fun (g : Int32 × Int32 × (Nat → Int32) × Int32 × (Nat → Int32) × Int32 × (Nat → Int32) × Int32 × (Nat → Int32) × Int64 × (Nat → Int32) × (Nat → Int32) × (Nat → Int32)) => match g with | (x5, x6, x10, x11, x12, x13, x14, x15, x16, x17, x18, x19, x20) => ∀ z7 : Option Value, znl z7 = true → ∀ z8 : Option Value, znl z8 = true → ∀ z9 : Option Value, znl z9 = true → pm_ev C_X11_clouds (d + 1) (pm_call M cost zext d) cost (false, false) 108 1 6 Q 30 [some (.ref 0), some (.int a1), some (.int a2), some (.int a3), some (.int a4), some (.int x5), some (.int x6), z7, z8, z9] [] 0 0 (zS 7 19 I [(14, none, x19), (17, none, x20), (52, none, x18), (53, some 0, fun _ => x13), (53, some 1, fun _ => x15), (53, some 3, fun _ => x11), (54, none, x10), (55, none, x16), (56, none, x12), (57, none, x14)] J [(53, some 2, fun _ => x17)]))) ?_ zFU ((0 : Int32), (0 : Int32), (I 54), (I 53 3), (I 56), (I 53 0), (I 57), (I 53 1), (I 55), (J 53 2), (I 52), (I 14), (I 17)) h none rfl none rfl none rfl
          rintro ⟨x5, x6, x10, x11, x12, x13, x14, x15, x16, x17, x18, x19, x20⟩ h z7 hz7 z8 hz8 z9 hz9
          refine g_iload (pc' := 32)  hc rfl rfl rfl ?_
          refine g_iconst (pc' := 33) (v := (1 : Int32)) hc rfl zki_1 rfl ?_
          refine g_iload_n (pc' := 34)  hc rfl rfl rfl ?_
          refine g_ishl (pc' := 35)  hc rfl rfl ?_
          refine g_icmp_ge (pc' := 38) hc rfl rfl (fun hx => ?_) (fun hx => ?_)
          · replace h := zwp_t h hx
            replace h := zwp_r h
            exact h (some (.int x6)) rfl z7 hz7 z8 hz8 z9 hz9
          · replace h := zwp_f h hx
            refine g_iconst (pc' := 39) (v := (1 : Int32)) hc rfl zki_1 rfl ?_
            refine g_istore (pc' := 41) (ls1 := [some (.ref 0), some (.int a1), some (.int a2), some (.int a3), some (.int a4), some (.int x5), some (.int x6), some (.int (1 : Int32)), z8, z9]) hc rfl (zlt rfl) rfl rfl ?_
            refine g_aload_n (pc' := 42)  hc rfl rfl rfl rfl ?_
            refine z_getR (pc' := 45)  hc rfl rfl rfl sh_0 rfl rfl ?_
            refine g_aload_n (pc' := 46)  hc rfl rfl rfl rfl ?_
            refine z_getR (pc' := 49)  hc rfl rfl rfl sh_0 rfl rfl ?_
            refine z_virt (as := [.ref 31]) (a := 53) (r := []) hc rfl rfl rfl rfl sh_53 rfl zco_68 rfl rfl rfl ?_
            refine ok_X8_copyFrom_53_31 (zdp hd rfl) (zwp_mono (zwp_bind h) ?_)
            rintro ⟨o37, o38, o39, o40, o41, o42, o43, o44⟩ h
            refine z_po (pc' := 52) (st' := []) (v := none) (L' := [(14, none, x19), (17, none, x20), (52, none, x18), (53, some 0, fun _ => o40), (53, some 1, fun _ => o42), (53, some 3, fun _ => o38), (54, none, o37), (55, none, o43), (56, none, o39), (57, none, o41)]) (K' := [(53, some 2, fun _ => o44)]) zco_68 rfl rfl rfl rfl rfl rfl rfl rfl ?_
            refine g_iconst (pc' := 53) (v := (0 : Int32)) hc rfl zki_0 rfl ?_
            refine g_istore (pc' := 55) (ls1 := [some (.ref 0), some (.int a1), some (.int a2), some (.int a3), some (.int a4), some (.int x5), some (.int x6), some (.int (1 : Int32)), some (.int (0 : Int32)), z9]) hc rfl (zlt rfl) rfl rfl ?_
            refine zjn (G := (fun (g : Int32 × (Nat → Int32) × (Nat → Int32) × Int32 × (Nat → Int32) × (Nat → Int32) × (Nat → Int32) × (Nat → Int32)) => match g with | (y55, y58, y59, y60, y61, y62, y63, y64) => ∀ z56 : Option Value, znl z56 = true → ∀ z57 : Option Value, znl z57 = true → pm_ev C_X11_clouds (d + 1) (pm_call M cost zext d) cost (false, false) 108 1 6 Q 121 [some (.ref 0), some (.int a1), some (.int a2), some (.int a3), some (.int a4), some (.int x5), some (.int x6), some (.int y55), z56, z57] [] 0 0 (zS 7 19 I [(14, none, y63), (17, none, y64), (52, none, y62), (53, some 0, fun _ => y60), (53, some 1, fun _ => o42), (53, some 3, fun _ => o38), (54, none, y58), (55, none, y61), (56, none, y59), (57, none, o41)] J [(53, some 2, fun _ => o44)]))) (zwp_bind h) ?_ (fun h => ?_)
            · rintro ⟨y55, y58, y59, y60, y61, y62, y63, y64⟩ h z56 hz56 z57 hz57
              refine g_aload_n (pc' := 122)  hc rfl rfl rfl rfl ?_
              refine z_getR (pc' := 125)  hc rfl rfl rfl sh_0 rfl rfl ?_
              refine z_getR (pc' := 128)  hc rfl rfl rfl sh_53 rfl rfl ?_
              refine g_iload_n (pc' := 129)  hc rfl rfl rfl ?_
              have hb := (zwp_bnd h).1
              replace h := (zwp_bnd h).2
              refine z_iaload (pc' := 130) (v := (y58 a1.toNatClampNeg)) hc rfl rfl sh_54 hb rfl rfl ?_
              refine g_iload_n (pc' := 131)  hc rfl rfl rfl ?_
              refine g_icmp_ne (pc' := 134) hc rfl rfl (fun hx => ?_) (fun hx => ?_)
              · replace h := zwp_f h hx
                refine g_iinc (pc' := 144) (ls1 := [some (.ref 0), some (.int a1), some (.int a2), some (.int a3), some (.int a4), some (.int x5), some (.int (x6 + (1 : Int32))), some (.int y55), z56, z57]) hc rfl rfl zki_1 (zlt rfl) rfl rfl ?_
                refine g_goto hc rfl ?_
                replace h := zwp_l h
                exact h (some (.int y55)) rfl z56 hz56 z57 hz57
              · replace h := zwp_t h hx
                refine g_iload (pc' := 136)  hc rfl rfl rfl ?_
                refine g_iload (pc' := 138)  hc rfl rfl rfl ?_
                refine g_iadd (pc' := 139)  hc rfl rfl ?_
                refine g_istore (pc' := 141) (ls1 := [some (.ref 0), some (.int a1), some (.int a2), some (.int a3), some (.int a4), some (.int (x5 + y55)), some (.int x6), some (.int y55), z56, z57]) hc rfl (zlt rfl) rfl rfl ?_
                refine g_iinc (pc' := 144) (ls1 := [some (.ref 0), some (.int a1), some (.int a2), some (.int a3), some (.int a4), some (.int (x5 + y55)), some (.int (x6 + (1 : Int32))), some (.int y55), z56, z57]) hc rfl rfl zki_1 (zlt rfl) rfl rfl ?_
                refine g_goto hc rfl ?_
                replace h := zwp_l h
                exact h (some (.int y55)) rfl z56 hz56 z57 hz57
            refine zitr_ev (G := (fun (g : Int32 × Int32 × (Nat → Int32) × (Nat → Int32) × Int32 × (Nat → Int32) × (Nat → Int32) × (Nat → Int32) × (Nat → Int32)) => match g with | (x45, x46, x48, x49, x50, x51, x52, x53, x54) => ∀ z47 : Option Value, znl z47 = true → pm_ev C_X11_clouds (d + 1) (pm_call M cost zext d) cost (false, false) 108 1 6 Q 55 [some (.ref 0), some (.int a1), some (.int a2), some (.int a3), some (.int a4), some (.int x5), some (.int x6), some (.int x45), some (.int x46), z47] [] 0 0 (zS 7 19 I [(14, none, x53), (17, none, x54), (52, none, x52), (53, some 0, fun _ => x50), (53, some 1, fun _ => o42), (53, some 3, fun _ => o38), (54, none, x48), (55, none, x51), (56, none, x49), (57, none, o41)] J [(53, some 2, fun _ => o44)]))) ?_ zFU ((1 : Int32), (0 : Int32), o37, o39, o40, o43, x18, x19, x20) h z9 hz9
            rintro ⟨x45, x46, x48, x49, x50, x51, x52, x53, x54⟩ h z47 hz47
            refine g_iload (pc' := 57)  hc rfl rfl rfl ?_
            refine g_iload_n (pc' := 58)  hc rfl rfl rfl ?_
            refine g_icmp_ge (pc' := 61) hc rfl rfl (fun hx => ?_) (fun hx => ?_)
            · replace h := zwp_t h hx
              replace h := zwp_r h
              exact h (some (.int x46)) rfl z47 hz47
            · replace h := zwp_f h hx
              refine g_iload (pc' := 63)  hc rfl rfl rfl ?_
              refine g_iload (pc' := 65)  hc rfl rfl rfl ?_
              refine g_ishr (pc' := 66)  hc rfl rfl ?_
              refine g_iconst (pc' := 67) (v := (1 : Int32)) hc rfl zki_1 rfl ?_
              refine g_iand (pc' := 68)  hc rfl rfl ?_
              refine zjn (G := (fun (j65 : Int32) => pm_ev C_X11_clouds (d + 1) (pm_call M cost zext d) cost (false, false) 108 1 6 Q 76 [some (.ref 0), some (.int a1), some (.int a2), some (.int a3), some (.int a4), some (.int x5), some (.int x6), some (.int x45), some (.int x46), z47] [.int j65] 0 0 (zS 7 19 I [(14, none, x53), (17, none, x54), (52, none, x52), (53, some 0, fun _ => x50), (53, some 1, fun _ => o42), (53, some 3, fun _ => o38), (54, none, x48), (55, none, x51), (56, none, x49), (57, none, o41)] J [(53, some 2, fun _ => o44)]))) (zwp_bind h) ?_ (fun h => ?_)
              · rintro j65 h
                refine g_istore (pc' := 78) (ls1 := [some (.ref 0), some (.int a1), some (.int a2), some (.int a3), some (.int a4), some (.int x5), some (.int x6), some (.int x45), some (.int x46), some (.int j65)]) hc rfl (zlt rfl) rfl rfl ?_
                refine g_iload (pc' := 80)  hc rfl rfl rfl ?_
                refine g_iload (pc' := 82)  hc rfl rfl rfl ?_
                refine zjn (G := (fun (j66 : Int32) => pm_ev C_X11_clouds (d + 1) (pm_call M cost zext d) cost (false, false) 108 1 6 Q 95 [some (.ref 0), some (.int a1), some (.int a2), some (.int a3), some (.int a4), some (.int x5), some (.int x6), some (.int x45), some (.int x46), some (.int j65)] [.int j66, .int x45] 0 0 (zS 7 19 I [(14, none, x53), (17, none, x54), (52, none, x52), (53, some 0, fun _ => x50), (53, some 1, fun _ => o42), (53, some 3, fun _ => o38), (54, none, x48), (55, none, x51), (56, none, x49), (57, none, o41)] J [(53, some 2, fun _ => o44)]))) (zwp_bind h) ?_ (fun h => ?_)
                · rintro j66 h
                  refine g_imul (pc' := 96)  hc rfl rfl ?_
                  refine g_istore (pc' := 98) (ls1 := [some (.ref 0), some (.int a1), some (.int a2), some (.int a3), some (.int a4), some (.int x5), some (.int x6), some (.int (x45 * j66)), some (.int x46), some (.int j65)]) hc rfl (zlt rfl) rfl rfl ?_
                  refine g_aload_n (pc' := 99)  hc rfl rfl rfl rfl ?_
                  refine z_getR (pc' := 102)  hc rfl rfl rfl sh_0 rfl rfl ?_
                  refine g_aload_n (pc' := 103)  hc rfl rfl rfl rfl ?_
                  refine z_getR (pc' := 106)  hc rfl rfl rfl sh_0 rfl rfl ?_
                  refine g_aload_n (pc' := 107)  hc rfl rfl rfl rfl ?_
                  refine z_getR (pc' := 110)  hc rfl rfl rfl sh_0 rfl rfl ?_
                  refine g_iload (pc' := 112)  hc rfl rfl rfl ?_
                  refine z_virt (as := [.ref 7, .ref 53, .int j65]) (a := 51) (r := []) hc rfl rfl rfl rfl sh_51 rfl zco_14 rfl rfl rfl ?_
                  refine ok_X2_passHour_51_7_53 (zdp hd rfl) (zwp_mono (zwp_bind h) ?_)
                  rintro ⟨o67, o68, o69, o70, o71, o72, o73⟩ h
                  refine z_po (pc' := 115) (st' := []) (v := none) (L' := [(14, none, o67), (17, none, o68), (52, none, o73), (53, some 0, fun _ => o71), (53, some 1, fun _ => o42), (53, some 3, fun _ => o38), (54, none, o69), (55, none, o72), (56, none, o70), (57, none, o41)]) (K' := [(53, some 2, fun _ => o44)]) zco_14 rfl rfl rfl rfl rfl rfl rfl rfl ?_
                  refine g_iinc (pc' := 118) (ls1 := [some (.ref 0), some (.int a1), some (.int a2), some (.int a3), some (.int a4), some (.int x5), some (.int x6), some (.int (x45 * j66)), some (.int (x46 + (1 : Int32))), some (.int j65)]) hc rfl rfl zki_1 (zlt rfl) rfl rfl ?_
                  refine g_goto hc rfl ?_
                  replace h := zwp_l h
                  exact h (some (.int j65)) rfl
                refine g_if_eq (pc' := 85) hc rfl rfl (fun hx => ?_) (fun hx => ?_)
                · replace h := zwp_t h hx
                  refine g_bipush (pc' := 92) (v := (10 : Int32)) hc rfl zkb_10 rfl ?_
                  refine g_iload (pc' := 94)  hc rfl rfl rfl ?_
                  refine g_isub (pc' := 95)  hc rfl rfl ?_
                  replace h := zws h
                  exact h
                · replace h := zwp_f h hx
                  refine g_iload (pc' := 87)  hc rfl rfl rfl ?_
                  refine g_goto hc rfl ?_
                  replace h := zws h
                  exact h
              refine g_if_eq (pc' := 71) hc rfl rfl (fun hx => ?_) (fun hx => ?_)
              · replace h := zwp_t h hx
                refine g_iconst (pc' := 76) (v := (0 : Int32)) hc rfl zki_0 rfl ?_
                replace h := zws h
                exact h
              · replace h := zwp_f h hx
                refine g_iconst (pc' := 72) (v := (1 : Int32)) hc rfl zki_1 rfl ?_
                refine g_goto hc rfl ?_
                replace h := zws h
                exact h
        · replace h := zws h
          exact z_pox (L' := [(14, none, (I 14)), (17, none, (I 17)), (52, none, (I 52)), (53, some 0, fun _ => (I 53 0)), (53, some 1, fun _ => (I 53 1)), (53, some 3, fun _ => (I 53 3)), (54, none, (I 54)), (55, none, (I 55)), (56, none, (I 56)), (57, none, (I 57))]) (K' := [(53, some 2, fun _ => (J 53 2))]) rfl rfl rfl rfl rfl rfl rfl h
      · replace h := zws h
        exact z_pox (L' := [(14, none, (I 14)), (17, none, (I 17)), (52, none, (I 52)), (53, some 0, fun _ => (I 53 0)), (53, some 1, fun _ => (I 53 1)), (53, some 3, fun _ => (I 53 3)), (54, none, (I 54)), (55, none, (I 55)), (56, none, (I 56)), (57, none, (I 57))]) (K' := [(53, some 2, fun _ => (J 53 2))]) rfl rfl rfl rfl rfl rfl rfl h
    · replace h := zws h
      exact z_pox (L' := [(14, none, (I 14)), (17, none, (I 17)), (52, none, (I 52)), (53, some 0, fun _ => (I 53 0)), (53, some 1, fun _ => (I 53 1)), (53, some 3, fun _ => (I 53 3)), (54, none, (I 54)), (55, none, (I 55)), (56, none, (I 56)), (57, none, (I 57))]) (K' := [(53, some 2, fun _ => (J 53 2))]) rfl rfl rfl rfl rfl rfl rfl h
  · replace h := zws h
    exact z_pox (L' := [(14, none, (I 14)), (17, none, (I 17)), (52, none, (I 52)), (53, some 0, fun _ => (I 53 0)), (53, some 1, fun _ => (I 53 1)), (53, some 3, fun _ => (I 53 3)), (54, none, (I 54)), (55, none, (I 55)), (56, none, (I 56)), (57, none, (I 57))]) (K' := [(53, some 2, fun _ => (J 53 2))]) rfl rfl rfl rfl rfl rfl rfl h
