set_option maxRecDepth 4000 in
theorem ok_X12_copies_75_105_92 {p q : Nat} {I : pI} {J : pJ} {Q : pQ} {d : Nat} (hd : 1 ≤ d) (h : zwp (f_X12_copies 2800 2800 (I 105) (I 92)) (fun o0 => Q (.inl none) (zS p q I [(92, none, o0)] J []))) : pm_call M cost zext d 157 [.ref 75, .ref 105, .ref 92] (pm_st 108 (shp p q) I J) Q := by
  obtain ⟨d, rfl⟩ := zd1 hd rfl
  have hc := pm_call_m (M := M) (cost := cost) zext_m d
  refine z_in (L := [(92, none, (I 92))]) (K := []) (ls := [some (.ref 75), some (.ref 105), some (.ref 92), none]) zmt_157 zco_157 rfl rfl (zid_a zid_n) zid_n ?_
  delta f_X12_copies at h
  refine g_iconst (pc' := 1) (v := (0 : Int32)) hc rfl zki_0 rfl ?_
  refine g_istore_n (pc' := 2) (ls1 := [some (.ref 75), some (.ref 105), some (.ref 92), some (.int (0 : Int32))]) hc rfl (zlt rfl) rfl rfl ?_
  refine zjn (G := (fun (y4 : (Nat → Int32)) => ∀ z3 : Option Value, znl z3 = true → pm_ev C_X12_copies (d + 1) (pm_call M cost zext d) cost (false, false) 108 0 0 Q 20 [some (.ref 75), some (.ref 105), some (.ref 92), z3] [] 0 0 (zS p q I [(92, none, y4)] J []))) (zwp_bind h) ?_ (fun h => ?_)
  · rintro y4 h z3 hz3
    replace h := zws h
    exact g_return hc rfl rfl (fun _ => ⟨rfl, rfl⟩) h
  refine zitr_ev (G := (fun (g : Int32 × (Nat → Int32)) => match g with | (x1, x2) => pm_ev C_X12_copies (d + 1) (pm_call M cost zext d) cost (false, false) 108 0 0 Q 2 [some (.ref 75), some (.ref 105), some (.ref 92), some (.int x1)] [] 0 0 (zS p q I [(92, none, x2)] J []))) ?_ zFU ((0 : Int32), (I 92)) h
  rintro ⟨x1, x2⟩ h
  refine g_iload_n (pc' := 3)  hc rfl rfl rfl ?_
  refine g_aload_n (pc' := 4)  hc rfl rfl rfl rfl ?_
  refine z_alen (pc' := 5) (v := (Int32.ofNat 2800)) hc rfl rfl sh_105 ⟨by decide, by decide⟩ rfl rfl ?_
  refine g_icmp_ge (pc' := 8) hc rfl rfl (fun hx => ?_) (fun hx => ?_)
  · replace h := zwp_t h hx
    replace h := zwp_r h
    exact h (some (.int x1)) rfl
  · replace h := zwp_f h hx
    refine g_aload_n (pc' := 9)  hc rfl rfl rfl rfl ?_
    refine g_iload_n (pc' := 10)  hc rfl rfl rfl ?_
    refine g_aload_n (pc' := 11)  hc rfl rfl rfl rfl ?_
    refine g_iload_n (pc' := 12)  hc rfl rfl rfl ?_
    have hb := (zwp_bnd h).1
    replace h := (zwp_bnd h).2
    refine z_iaload (pc' := 13) (v := (((I 105)) x1.toNatClampNeg)) hc rfl rfl sh_105 hb rfl rfl ?_
    have hb := (zwp_bnd h).1
    replace h := (zwp_bnd h).2
    refine z_iastore (pc' := 14) (g := x2) (L' := [(92, none, (upd x2 x1.toNatClampNeg (((I 105)) x1.toNatClampNeg)))]) hc rfl rfl sh_92 hb rfl rfl rfl rfl ?_
    refine g_iinc (pc' := 17) (ls1 := [some (.ref 75), some (.ref 105), some (.ref 92), some (.int (x1 + (1 : Int32)))]) hc rfl rfl zki_1 (zlt rfl) rfl rfl ?_
    refine g_goto hc rfl ?_
    replace h := zwp_l h
    exact h
set_option maxRecDepth 4000 in
theorem ok_X12_copies_75_106_101 {p q : Nat} {I : pI} {J : pJ} {Q : pQ} {d : Nat} (hd : 1 ≤ d) (h : zwp (f_X12_copies 24 24 (I 106) (I 101)) (fun o0 => Q (.inl none) (zS p q I [(101, none, o0)] J []))) : pm_call M cost zext d 157 [.ref 75, .ref 106, .ref 101] (pm_st 108 (shp p q) I J) Q := by
  obtain ⟨d, rfl⟩ := zd1 hd rfl
  have hc := pm_call_m (M := M) (cost := cost) zext_m d
  refine z_in (L := [(101, none, (I 101))]) (K := []) (ls := [some (.ref 75), some (.ref 106), some (.ref 101), none]) zmt_157 zco_157 rfl rfl (zid_a zid_n) zid_n ?_
  delta f_X12_copies at h
  refine g_iconst (pc' := 1) (v := (0 : Int32)) hc rfl zki_0 rfl ?_
  refine g_istore_n (pc' := 2) (ls1 := [some (.ref 75), some (.ref 106), some (.ref 101), some (.int (0 : Int32))]) hc rfl (zlt rfl) rfl rfl ?_
  refine zjn (G := (fun (y4 : (Nat → Int32)) => ∀ z3 : Option Value, znl z3 = true → pm_ev C_X12_copies (d + 1) (pm_call M cost zext d) cost (false, false) 108 0 0 Q 20 [some (.ref 75), some (.ref 106), some (.ref 101), z3] [] 0 0 (zS p q I [(101, none, y4)] J []))) (zwp_bind h) ?_ (fun h => ?_)
  · rintro y4 h z3 hz3
    replace h := zws h
    exact g_return hc rfl rfl (fun _ => ⟨rfl, rfl⟩) h
  refine zitr_ev (G := (fun (g : Int32 × (Nat → Int32)) => match g with | (x1, x2) => pm_ev C_X12_copies (d + 1) (pm_call M cost zext d) cost (false, false) 108 0 0 Q 2 [some (.ref 75), some (.ref 106), some (.ref 101), some (.int x1)] [] 0 0 (zS p q I [(101, none, x2)] J []))) ?_ zFU ((0 : Int32), (I 101)) h
  rintro ⟨x1, x2⟩ h
  refine g_iload_n (pc' := 3)  hc rfl rfl rfl ?_
  refine g_aload_n (pc' := 4)  hc rfl rfl rfl rfl ?_
  refine z_alen (pc' := 5) (v := (Int32.ofNat 24)) hc rfl rfl sh_106 ⟨by decide, by decide⟩ rfl rfl ?_
  refine g_icmp_ge (pc' := 8) hc rfl rfl (fun hx => ?_) (fun hx => ?_)
  · replace h := zwp_t h hx
    replace h := zwp_r h
    exact h (some (.int x1)) rfl
  · replace h := zwp_f h hx
    refine g_aload_n (pc' := 9)  hc rfl rfl rfl rfl ?_
    refine g_iload_n (pc' := 10)  hc rfl rfl rfl ?_
    refine g_aload_n (pc' := 11)  hc rfl rfl rfl rfl ?_
    refine g_iload_n (pc' := 12)  hc rfl rfl rfl ?_
    have hb := (zwp_bnd h).1
    replace h := (zwp_bnd h).2
    refine z_iaload (pc' := 13) (v := (((I 106)) x1.toNatClampNeg)) hc rfl rfl sh_106 hb rfl rfl ?_
    have hb := (zwp_bnd h).1
    replace h := (zwp_bnd h).2
    refine z_iastore (pc' := 14) (g := x2) (L' := [(101, none, (upd x2 x1.toNatClampNeg (((I 106)) x1.toNatClampNeg)))]) hc rfl rfl sh_101 hb rfl rfl rfl rfl ?_
    refine g_iinc (pc' := 17) (ls1 := [some (.ref 75), some (.ref 106), some (.ref 101), some (.int (x1 + (1 : Int32)))]) hc rfl rfl zki_1 (zlt rfl) rfl rfl ?_
    refine g_goto hc rfl ?_
    replace h := zwp_l h
    exact h
set_option maxRecDepth 4000 in
theorem ok_X12_restore_75 {p q : Nat} {I : pI} {J : pJ} {Q : pQ} {d : Nat} (hd : 2 ≤ d) (h : zwp (f_X12_restore (I 75 50) (I 75 65) (I 75 66) (I 105) (I 75 67) (I 106) (I 104) (I 92) (I 101) (I 75 60) (I 91) (I 75 0)) (fun w => match w with | (r, o0, o1, o2, o3, o4, o5) => Q (.inl (some (.int r))) (zS p q I [(75, some 0, fun _ => o5), (75, some 50, fun _ => o0), (75, some 60, fun _ => o3), (91, none, o4), (92, none, o1), (101, none, o2)] J []))) : pm_call M cost zext d 264 [.ref 75] (pm_st 108 (shp p q) I J) Q := by
  obtain ⟨d, rfl⟩ := zd1 hd rfl
  have hc := pm_call_m (M := M) (cost := cost) zext_m d
  refine z_in (L := [(75, some 0, fun _ => (I 75 0)), (75, some 50, fun _ => (I 75 50)), (75, some 60, fun _ => (I 75 60)), (91, none, (I 91)), (92, none, (I 92)), (101, none, (I 101))]) (K := []) (ls := [some (.ref 75), none]) zmt_264 zco_264 rfl rfl (zid_s (zid_s (zid_s (zid_a (zid_a (zid_a zid_n)))))) zid_n ?_
  delta f_X12_restore at h
  refine g_aload_n (pc' := 1)  hc rfl rfl rfl rfl ?_
  refine g_iconst (pc' := 2) (v := (0 : Int32)) hc rfl zki_0 rfl ?_
  refine z_putI (pc' := 5) (L' := [(75, some 0, fun _ => (0 : Int32)), (75, some 50, fun _ => (I 75 50)), (75, some 60, fun _ => (I 75 60)), (91, none, (I 91)), (92, none, (I 92)), (101, none, (I 101))]) hc rfl rfl rfl sh_75 rfl zft_12_0 rfl (fun h => Bool.noConfusion h) rfl rfl rfl ?_
  refine g_aload_n (pc' := 6)  hc rfl rfl rfl rfl ?_
  refine z_getI (pc' := 9) (v := (I 75 65)) hc rfl rfl rfl sh_75 rfl rfl rfl ?_
  refine g_if_ne (pc' := 12) hc rfl rfl (fun hx => ?_) (fun hx => ?_)
  · replace h := zwp_f h hx
    refine g_aload_n (pc' := 15)  hc rfl rfl rfl rfl ?_
    refine g_aload_n (pc' := 16)  hc rfl rfl rfl rfl ?_
    refine z_getI (pc' := 19) (v := (I 75 66)) hc rfl rfl rfl sh_75 rfl rfl rfl ?_
    refine z_putI (pc' := 22) (L' := [(75, some 0, fun _ => (0 : Int32)), (75, some 50, fun _ => (I 75 66)), (75, some 60, fun _ => (I 75 60)), (91, none, (I 91)), (92, none, (I 92)), (101, none, (I 101))]) hc rfl rfl rfl sh_75 rfl zft_12_50 rfl (fun h => Bool.noConfusion h) rfl rfl rfl ?_
    refine g_aload_n (pc' := 23)  hc rfl rfl rfl rfl ?_
    refine g_aload_n (pc' := 24)  hc rfl rfl rfl rfl ?_
    refine z_getI (pc' := 27) (v := (I 75 67)) hc rfl rfl rfl sh_75 rfl rfl rfl ?_
    refine z_putI (pc' := 30) (L' := [(75, some 0, fun _ => (0 : Int32)), (75, some 50, fun _ => (I 75 66)), (75, some 60, fun _ => (I 75 67)), (91, none, (I 91)), (92, none, (I 92)), (101, none, (I 101))]) hc rfl rfl rfl sh_75 rfl zft_12_60 rfl (fun h => Bool.noConfusion h) rfl rfl rfl ?_
    refine g_iconst (pc' := 31) (v := (0 : Int32)) hc rfl zki_0 rfl ?_
    refine g_istore_n (pc' := 32) (ls1 := [some (.ref 75), some (.int (0 : Int32))]) hc rfl (zlt rfl) rfl rfl ?_
    refine zjn (G := (fun (y4 : (Nat → Int32)) => ∀ z3 : Option Value, znl z3 = true → pm_ev C_X12_restore (d + 1) (pm_call M cost zext d) cost (false, false) 108 0 0 Q 56 [some (.ref 75), z3] [] 0 0 (zS p q I [(75, some 0, fun _ => (0 : Int32)), (75, some 50, fun _ => (I 75 66)), (75, some 60, fun _ => (I 75 67)), (91, none, y4), (92, none, (I 92)), (101, none, (I 101))] J []))) (zwp_bind h) ?_ (fun h => ?_)
    · rintro y4 h z3 hz3
      refine g_aload_n (pc' := 57)  hc rfl rfl rfl rfl ?_
      refine g_aload_n (pc' := 58)  hc rfl rfl rfl rfl ?_
      refine z_getR (pc' := 61)  hc rfl rfl rfl sh_75 rfl rfl ?_
      refine g_aload_n (pc' := 62)  hc rfl rfl rfl rfl ?_
      refine z_getR (pc' := 65)  hc rfl rfl rfl sh_75 rfl rfl ?_
      refine z_virt (as := [.ref 105, .ref 92]) (a := 75) (r := []) hc rfl rfl rfl rfl sh_75 rfl zco_157 rfl rfl rfl ?_
      refine ok_X12_copies_75_105_92 (zdp hd rfl) (zwp_mono (zwp_bind h) ?_)
      rintro o5 h
      refine z_po (pc' := 68) (st' := []) (v := none) (L' := [(75, some 0, fun _ => (0 : Int32)), (75, some 50, fun _ => (I 75 66)), (75, some 60, fun _ => (I 75 67)), (91, none, y4), (92, none, o5), (101, none, (I 101))]) (K' := []) zco_157 rfl rfl rfl rfl rfl rfl rfl rfl ?_
      refine g_aload_n (pc' := 69)  hc rfl rfl rfl rfl ?_
      refine g_aload_n (pc' := 70)  hc rfl rfl rfl rfl ?_
      refine z_getR (pc' := 73)  hc rfl rfl rfl sh_75 rfl rfl ?_
      refine g_aload_n (pc' := 74)  hc rfl rfl rfl rfl ?_
      refine z_getR (pc' := 77)  hc rfl rfl rfl sh_75 rfl rfl ?_
      refine z_virt (as := [.ref 106, .ref 101]) (a := 75) (r := []) hc rfl rfl rfl rfl sh_75 rfl zco_157 rfl rfl rfl ?_
      refine ok_X12_copies_75_106_101 (zdp hd rfl) (zwp_mono (zwp_bind h) ?_)
      rintro o6 h
      refine z_po (pc' := 80) (st' := []) (v := none) (L' := [(75, some 0, fun _ => (0 : Int32)), (75, some 50, fun _ => (I 75 66)), (75, some 60, fun _ => (I 75 67)), (91, none, y4), (92, none, o5), (101, none, o6)]) (K' := []) zco_157 rfl rfl rfl rfl rfl rfl rfl rfl ?_
      refine g_iconst (pc' := 81) (v := (1 : Int32)) hc rfl zki_1 rfl ?_
      replace h := zws h
      exact g_ireturn hc rfl rfl rfl (fun _ => ⟨rfl, rfl⟩) h
    refine zitr_ev (G := (fun (g : Int32 × (Nat → Int32)) => match g with | (x1, x2) => pm_ev C_X12_restore (d + 1) (pm_call M cost zext d) cost (false, false) 108 0 0 Q 32 [some (.ref 75), some (.int x1)] [] 0 0 (zS p q I [(75, some 0, fun _ => (0 : Int32)), (75, some 50, fun _ => (I 75 66)), (75, some 60, fun _ => (I 75 67)), (91, none, x2), (92, none, (I 92)), (101, none, (I 101))] J []))) ?_ zFU ((0 : Int32), (I 91)) h
    rintro ⟨x1, x2⟩ h
    refine g_iload_n (pc' := 33)  hc rfl rfl rfl ?_
    refine g_bipush (pc' := 35) (v := (70 : Int32)) hc rfl zkb_70 rfl ?_
    refine g_icmp_ge (pc' := 38) hc rfl rfl (fun hx => ?_) (fun hx => ?_)
    · replace h := zwp_t h hx
      replace h := zwp_r h
      exact h (some (.int x1)) rfl
    · replace h := zwp_f h hx
      refine g_aload_n (pc' := 39)  hc rfl rfl rfl rfl ?_
      refine z_getR (pc' := 42)  hc rfl rfl rfl sh_75 rfl rfl ?_
      refine g_iload_n (pc' := 43)  hc rfl rfl rfl ?_
      refine g_aload_n (pc' := 44)  hc rfl rfl rfl rfl ?_
      refine z_getR (pc' := 47)  hc rfl rfl rfl sh_75 rfl rfl ?_
      refine g_iload_n (pc' := 48)  hc rfl rfl rfl ?_
      have hb := (zwp_bnd h).1
      replace h := (zwp_bnd h).2
      refine z_iaload (pc' := 49) (v := (((I 104)) x1.toNatClampNeg)) hc rfl rfl sh_104 hb rfl rfl ?_
      have hb := (zwp_bnd h).1
      replace h := (zwp_bnd h).2
      refine z_iastore (pc' := 50) (g := x2) (L' := [(75, some 0, fun _ => (0 : Int32)), (75, some 50, fun _ => (I 75 66)), (75, some 60, fun _ => (I 75 67)), (91, none, (upd x2 x1.toNatClampNeg (((I 104)) x1.toNatClampNeg))), (92, none, (I 92)), (101, none, (I 101))]) hc rfl rfl sh_91 hb rfl rfl rfl rfl ?_
      refine g_iinc (pc' := 53) (ls1 := [some (.ref 75), some (.int (x1 + (1 : Int32)))]) hc rfl rfl zki_1 (zlt rfl) rfl rfl ?_
      refine g_goto hc rfl ?_
      replace h := zwp_l h
      exact h
  · replace h := zwp_t h hx
    refine g_iconst (pc' := 13) (v := (0 : Int32)) hc rfl zki_0 rfl ?_
    replace h := zws h
    exact g_ireturn hc rfl rfl rfl (fun _ => ⟨rfl, rfl⟩) h
set_option maxRecDepth 4000 in
theorem ok_X5_clear_25 {p q : Nat} {I : pI} {J : pJ} {Q : pQ} {d : Nat} (hd : 1 ≤ d) (h : zwp (f_X5_clear (I 25 2)) (fun o0 => Q (.inl none) (zS p q I [(25, some 2, fun _ => o0)] J []))) : pm_call M cost zext d 42 [.ref 25] (pm_st 108 (shp p q) I J) Q := by
  obtain ⟨d, rfl⟩ := zd1 hd rfl
  have hc := pm_call_m (M := M) (cost := cost) zext_m d
  refine z_in (L := [(25, some 2, fun _ => (I 25 2))]) (K := []) (ls := [some (.ref 25)]) zmt_42 zco_42 rfl rfl (zid_s zid_n) zid_n ?_
  delta f_X5_clear at h
  refine g_aload_n (pc' := 1)  hc rfl rfl rfl rfl ?_
  refine g_iconst (pc' := 2) (v := (0 : Int32)) hc rfl zki_0 rfl ?_
  refine z_putI (pc' := 5) (L' := [(25, some 2, fun _ => (0 : Int32))]) hc rfl rfl rfl sh_25 rfl zft_5_2 rfl (fun h => Bool.noConfusion h) rfl rfl rfl ?_
  replace h := zws h
  exact g_return hc rfl rfl (fun _ => ⟨rfl, rfl⟩) h
set_option maxRecDepth 4000 in
theorem ok_X5_clear_28 {p q : Nat} {I : pI} {J : pJ} {Q : pQ} {d : Nat} (hd : 1 ≤ d) (h : zwp (f_X5_clear (I 28 2)) (fun o0 => Q (.inl none) (zS p q I [(28, some 2, fun _ => o0)] J []))) : pm_call M cost zext d 42 [.ref 28] (pm_st 108 (shp p q) I J) Q := by
  obtain ⟨d, rfl⟩ := zd1 hd rfl
  have hc := pm_call_m (M := M) (cost := cost) zext_m d
  refine z_in (L := [(28, some 2, fun _ => (I 28 2))]) (K := []) (ls := [some (.ref 28)]) zmt_42 zco_42 rfl rfl (zid_s zid_n) zid_n ?_
  delta f_X5_clear at h
  refine g_aload_n (pc' := 1)  hc rfl rfl rfl rfl ?_
  refine g_iconst (pc' := 2) (v := (0 : Int32)) hc rfl zki_0 rfl ?_
  refine z_putI (pc' := 5) (L' := [(28, some 2, fun _ => (0 : Int32))]) hc rfl rfl rfl sh_28 rfl zft_5_2 rfl (fun h => Bool.noConfusion h) rfl rfl rfl ?_
  replace h := zws h
  exact g_return hc rfl rfl (fun _ => ⟨rfl, rfl⟩) h
set_option maxRecDepth 4000 in
theorem ok_X3_clear_19 {p q : Nat} {I : pI} {J : pJ} {Q : pQ} {d : Nat} (hd : 2 ≤ d) (h : zwp (f_X3_clear (I 19 12) (I 19 11) (I 19 3) (I 25 2) (I 19 1) (I 28 2) (I 19 9) (I 19 7) (J 19 2) (I 19 0)) (fun w => match w with | (o0, o1, o2, o3, o4, o5, o6, o7, o8, o9) => Q (.inl none) (zS p q I [(19, some 0, fun _ => o9), (19, some 1, fun _ => o4), (19, some 3, fun _ => o2), (19, some 7, fun _ => o7), (19, some 9, fun _ => o6), (19, some 11, fun _ => o1), (19, some 12, fun _ => o0), (25, some 2, fun _ => o3), (28, some 2, fun _ => o5)] J [(19, some 2, fun _ => o8)]))) : pm_call M cost zext d 20 [.ref 19] (pm_st 108 (shp p q) I J) Q := by
  obtain ⟨d, rfl⟩ := zd1 hd rfl
  have hc := pm_call_m (M := M) (cost := cost) zext_m d
  refine z_in (L := [(19, some 0, fun _ => (I 19 0)), (19, some 1, fun _ => (I 19 1)), (19, some 3, fun _ => (I 19 3)), (19, some 7, fun _ => (I 19 7)), (19, some 9, fun _ => (I 19 9)), (19, some 11, fun _ => (I 19 11)), (19, some 12, fun _ => (I 19 12)), (25, some 2, fun _ => (I 25 2)), (28, some 2, fun _ => (I 28 2))]) (K := [(19, some 2, fun _ => (J 19 2))]) (ls := [some (.ref 19)]) zmt_20 zco_20 rfl rfl (zid_s (zid_s (zid_s (zid_s (zid_s (zid_s (zid_s (zid_s (zid_s zid_n))))))))) (zid_s zid_n) ?_
  delta f_X3_clear at h
  refine g_aload_n (pc' := 1)  hc rfl rfl rfl rfl ?_
  refine g_iconst (pc' := 2) (v := (5 : Int32)) hc rfl zki_5 rfl ?_
  refine z_putI (pc' := 5) (L' := [(19, some 0, fun _ => (5 : Int32)), (19, some 1, fun _ => (I 19 1)), (19, some 3, fun _ => (I 19 3)), (19, some 7, fun _ => (I 19 7)), (19, some 9, fun _ => (I 19 9)), (19, some 11, fun _ => (I 19 11)), (19, some 12, fun _ => (I 19 12)), (25, some 2, fun _ => (I 25 2)), (28, some 2, fun _ => (I 28 2))]) hc rfl rfl rfl sh_19 rfl zft_3_0 rfl (fun h => Bool.noConfusion h) rfl rfl rfl ?_
  refine g_aload_n (pc' := 6)  hc rfl rfl rfl rfl ?_
  refine g_iconst (pc' := 7) (v := (4 : Int32)) hc rfl zki_4 rfl ?_
  refine z_putI (pc' := 10) (L' := [(19, some 0, fun _ => (5 : Int32)), (19, some 1, fun _ => (4 : Int32)), (19, some 3, fun _ => (I 19 3)), (19, some 7, fun _ => (I 19 7)), (19, some 9, fun _ => (I 19 9)), (19, some 11, fun _ => (I 19 11)), (19, some 12, fun _ => (I 19 12)), (25, some 2, fun _ => (I 25 2)), (28, some 2, fun _ => (I 28 2))]) hc rfl rfl rfl sh_19 rfl zft_3_1 rfl (fun h => Bool.noConfusion h) rfl rfl rfl ?_
  refine g_aload_n (pc' := 11)  hc rfl rfl rfl rfl ?_
  refine g_lconst (pc' := 12) (v := (0 : Int64)) hc rfl zkl_0 rfl ?_
  refine z_putJ (pc' := 15) (K' := [(19, some 2, fun _ => (0 : Int64))]) hc rfl rfl rfl sh_19 rfl zft_3_2 (fun h => Bool.noConfusion h) rfl rfl rfl ?_
  refine g_aload_n (pc' := 16)  hc rfl rfl rfl rfl ?_
  refine g_iconst (pc' := 17) (v := (0 : Int32)) hc rfl zki_0 rfl ?_
  refine z_putI (pc' := 20) (L' := [(19, some 0, fun _ => (5 : Int32)), (19, some 1, fun _ => (4 : Int32)), (19, some 3, fun _ => (0 : Int32)), (19, some 7, fun _ => (I 19 7)), (19, some 9, fun _ => (I 19 9)), (19, some 11, fun _ => (I 19 11)), (19, some 12, fun _ => (I 19 12)), (25, some 2, fun _ => (I 25 2)), (28, some 2, fun _ => (I 28 2))]) hc rfl rfl rfl sh_19 rfl zft_3_3 rfl (fun h => Bool.noConfusion h) rfl rfl rfl ?_
  refine g_aload_n (pc' := 21)  hc rfl rfl rfl rfl ?_
  refine g_iconst (pc' := 22) (v := (0 : Int32)) hc rfl zki_0 rfl ?_
  refine z_putI (pc' := 25) (L' := [(19, some 0, fun _ => (5 : Int32)), (19, some 1, fun _ => (4 : Int32)), (19, some 3, fun _ => (0 : Int32)), (19, some 7, fun _ => (0 : Int32)), (19, some 9, fun _ => (I 19 9)), (19, some 11, fun _ => (I 19 11)), (19, some 12, fun _ => (I 19 12)), (25, some 2, fun _ => (I 25 2)), (28, some 2, fun _ => (I 28 2))]) hc rfl rfl rfl sh_19 rfl zft_3_7 rfl (fun h => Bool.noConfusion h) rfl rfl rfl ?_
  refine g_aload_n (pc' := 26)  hc rfl rfl rfl rfl ?_
  refine g_iconst (pc' := 27) (v := (0 : Int32)) hc rfl zki_0 rfl ?_
  refine z_putI (pc' := 30) (L' := [(19, some 0, fun _ => (5 : Int32)), (19, some 1, fun _ => (4 : Int32)), (19, some 3, fun _ => (0 : Int32)), (19, some 7, fun _ => (0 : Int32)), (19, some 9, fun _ => (0 : Int32)), (19, some 11, fun _ => (I 19 11)), (19, some 12, fun _ => (I 19 12)), (25, some 2, fun _ => (I 25 2)), (28, some 2, fun _ => (I 28 2))]) hc rfl rfl rfl sh_19 rfl zft_3_9 rfl (fun h => Bool.noConfusion h) rfl rfl rfl ?_
  refine g_aload_n (pc' := 31)  hc rfl rfl rfl rfl ?_
  refine g_iconst (pc' := 32) (v := (0 : Int32)) hc rfl zki_0 rfl ?_
  refine z_putI (pc' := 35) (L' := [(19, some 0, fun _ => (5 : Int32)), (19, some 1, fun _ => (4 : Int32)), (19, some 3, fun _ => (0 : Int32)), (19, some 7, fun _ => (0 : Int32)), (19, some 9, fun _ => (0 : Int32)), (19, some 11, fun _ => (0 : Int32)), (19, some 12, fun _ => (I 19 12)), (25, some 2, fun _ => (I 25 2)), (28, some 2, fun _ => (I 28 2))]) hc rfl rfl rfl sh_19 rfl zft_3_11 rfl (fun h => Bool.noConfusion h) rfl rfl rfl ?_
  refine g_aload_n (pc' := 36)  hc rfl rfl rfl rfl ?_
  refine g_iconst (pc' := 37) (v := (3 : Int32)) hc rfl zki_3 rfl ?_
  refine z_putI (pc' := 40) (L' := [(19, some 0, fun _ => (5 : Int32)), (19, some 1, fun _ => (4 : Int32)), (19, some 3, fun _ => (0 : Int32)), (19, some 7, fun _ => (0 : Int32)), (19, some 9, fun _ => (0 : Int32)), (19, some 11, fun _ => (0 : Int32)), (19, some 12, fun _ => (3 : Int32)), (25, some 2, fun _ => (I 25 2)), (28, some 2, fun _ => (I 28 2))]) hc rfl rfl rfl sh_19 rfl zft_3_12 rfl (fun h => Bool.noConfusion h) rfl rfl rfl ?_
  refine g_aload_n (pc' := 41)  hc rfl rfl rfl rfl ?_
  refine z_getR (pc' := 44)  hc rfl rfl rfl sh_19 rfl rfl ?_
  refine z_virt (as := []) (a := 25) (r := []) hc rfl rfl rfl rfl sh_25 rfl zco_42 rfl rfl rfl ?_
  refine ok_X5_clear_25 (zdp hd rfl) (zwp_mono (zwp_bind h) ?_)
  rintro o1 h
  refine z_po (pc' := 47) (st' := []) (v := none) (L' := [(19, some 0, fun _ => (5 : Int32)), (19, some 1, fun _ => (4 : Int32)), (19, some 3, fun _ => (0 : Int32)), (19, some 7, fun _ => (0 : Int32)), (19, some 9, fun _ => (0 : Int32)), (19, some 11, fun _ => (0 : Int32)), (19, some 12, fun _ => (3 : Int32)), (25, some 2, fun _ => o1), (28, some 2, fun _ => (I 28 2))]) (K' := [(19, some 2, fun _ => (0 : Int64))]) zco_42 rfl rfl rfl rfl rfl rfl rfl rfl ?_
  refine g_aload_n (pc' := 48)  hc rfl rfl rfl rfl ?_
  refine z_getR (pc' := 51)  hc rfl rfl rfl sh_19 rfl rfl ?_
  refine z_virt (as := []) (a := 28) (r := []) hc rfl rfl rfl rfl sh_28 rfl zco_42 rfl rfl rfl ?_
  refine ok_X5_clear_28 (zdp hd rfl) (zwp_mono (zwp_bind h) ?_)
  rintro o2 h
  refine z_po (pc' := 54) (st' := []) (v := none) (L' := [(19, some 0, fun _ => (5 : Int32)), (19, some 1, fun _ => (4 : Int32)), (19, some 3, fun _ => (0 : Int32)), (19, some 7, fun _ => (0 : Int32)), (19, some 9, fun _ => (0 : Int32)), (19, some 11, fun _ => (0 : Int32)), (19, some 12, fun _ => (3 : Int32)), (25, some 2, fun _ => o1), (28, some 2, fun _ => o2)]) (K' := [(19, some 2, fun _ => (0 : Int64))]) zco_42 rfl rfl rfl rfl rfl rfl rfl rfl ?_
  replace h := zws h
  exact g_return hc rfl rfl (fun _ => ⟨rfl, rfl⟩) h
set_option maxRecDepth 4000 in
theorem ok_X9_isLetter {p q : Nat} {I : pI} {J : pJ} {a0 : Int32} {Q : pQ} {d : Nat} (hd : 1 ≤ d) (h : zwp (f_X9_isLetter a0) (fun r => Q (.inl (some (.int r))) (zS p q I [] J []))) : pm_call M cost zext d 85 [.int a0] (pm_st 108 (shp p q) I J) Q := by
  obtain ⟨d, rfl⟩ := zd1 hd rfl
  have hc := pm_call_m (M := M) (cost := cost) zext_m d
  refine z_in (L := []) (K := []) (ls := [some (.int a0)]) zmt_85 zco_85 rfl rfl zid_n zid_n ?_
  delta f_X9_isLetter at h
  refine g_iload_n (pc' := 1)  hc rfl rfl rfl ?_
  refine g_bipush (pc' := 3) (v := (97 : Int32)) hc rfl zkb_97 rfl ?_
  refine g_icmp_lt (pc' := 6) hc rfl rfl (fun hx => ?_) (fun hx => ?_)
  · replace h := zwp_t h hx
    refine g_iconst (pc' := 17) (v := (0 : Int32)) hc rfl zki_0 rfl ?_
    replace h := zws h
    exact g_ireturn hc rfl rfl rfl (fun _ => ⟨rfl, rfl⟩) h
  · replace h := zwp_f h hx
    refine g_iload_n (pc' := 7)  hc rfl rfl rfl ?_
    refine g_bipush (pc' := 9) (v := (122 : Int32)) hc rfl zkb_122 rfl ?_
    refine g_icmp_gt (pc' := 12) hc rfl rfl (fun hx => ?_) (fun hx => ?_)
    · replace h := zwp_t h hx
      refine g_iconst (pc' := 17) (v := (0 : Int32)) hc rfl zki_0 rfl ?_
      replace h := zws h
      exact g_ireturn hc rfl rfl rfl (fun _ => ⟨rfl, rfl⟩) h
    · replace h := zwp_f h hx
      refine g_iconst (pc' := 13) (v := (1 : Int32)) hc rfl zki_1 rfl ?_
      refine g_goto hc rfl ?_
      replace h := zws h
      exact g_ireturn hc rfl rfl rfl (fun _ => ⟨rfl, rfl⟩) h
set_option maxRecDepth 4000 in
theorem ok_X9_isDigit {p q : Nat} {I : pI} {J : pJ} {a0 : Int32} {Q : pQ} {d : Nat} (hd : 1 ≤ d) (h : zwp (f_X9_isDigit a0) (fun r => Q (.inl (some (.int r))) (zS p q I [] J []))) : pm_call M cost zext d 86 [.int a0] (pm_st 108 (shp p q) I J) Q := by
  obtain ⟨d, rfl⟩ := zd1 hd rfl
  have hc := pm_call_m (M := M) (cost := cost) zext_m d
  refine z_in (L := []) (K := []) (ls := [some (.int a0)]) zmt_86 zco_86 rfl rfl zid_n zid_n ?_
  delta f_X9_isDigit at h
  refine g_iload_n (pc' := 1)  hc rfl rfl rfl ?_
  refine g_bipush (pc' := 3) (v := (48 : Int32)) hc rfl zkb_48 rfl ?_
  refine g_icmp_lt (pc' := 6) hc rfl rfl (fun hx => ?_) (fun hx => ?_)
  · replace h := zwp_t h hx
    refine g_iconst (pc' := 17) (v := (0 : Int32)) hc rfl zki_0 rfl ?_
    replace h := zws h
    exact g_ireturn hc rfl rfl rfl (fun _ => ⟨rfl, rfl⟩) h
  · replace h := zwp_f h hx
    refine g_iload_n (pc' := 7)  hc rfl rfl rfl ?_
    refine g_bipush (pc' := 9) (v := (57 : Int32)) hc rfl zkb_57 rfl ?_
    refine g_icmp_gt (pc' := 12) hc rfl rfl (fun hx => ?_) (fun hx => ?_)
    · replace h := zwp_t h hx
      refine g_iconst (pc' := 17) (v := (0 : Int32)) hc rfl zki_0 rfl ?_
      replace h := zws h
      exact g_ireturn hc rfl rfl rfl (fun _ => ⟨rfl, rfl⟩) h
    · replace h := zwp_f h hx
      refine g_iconst (pc' := 13) (v := (1 : Int32)) hc rfl zki_1 rfl ?_
      refine g_goto hc rfl ?_
      replace h := zws h
      exact g_ireturn hc rfl rfl rfl (fun _ => ⟨rfl, rfl⟩) h
set_option maxRecDepth 4000 in
theorem ok_X9_readNumber_1 {p q : Nat} {I : pI} {J : pJ} {Q : pQ} {d : Nat} (hd : 2 ≤ d) (h : zwp (f_X9_readNumber (I 2) (I 1 4) (I 1 5) (I 1 2) (I 1 6)) (fun w => match w with | (o0, o1, o2) => Q (.inl none) (zS p q I [(1, some 4, fun _ => o0), (1, some 5, fun _ => o1), (1, some 6, fun _ => o2)] J []))) : pm_call M cost zext d 84 [.ref 1] (pm_st 108 (shp p q) I J) Q := by
  obtain ⟨d, rfl⟩ := zd1 hd rfl
  have hc := pm_call_m (M := M) (cost := cost) zext_m d
  refine z_in (L := [(1, some 4, fun _ => (I 1 4)), (1, some 5, fun _ => (I 1 5)), (1, some 6, fun _ => (I 1 6))]) (K := []) (ls := [some (.ref 1)]) zmt_84 zco_84 rfl rfl (zid_s (zid_s (zid_s zid_n))) zid_n ?_
  delta f_X9_readNumber at h
  refine g_aload_n (pc' := 1)  hc rfl rfl rfl rfl ?_
  refine g_iconst (pc' := 2) (v := (2 : Int32)) hc rfl zki_2 rfl ?_
  refine z_putI (pc' := 5) (L' := [(1, some 4, fun _ => (I 1 4)), (1, some 5, fun _ => (2 : Int32)), (1, some 6, fun _ => (I 1 6))]) hc rfl rfl rfl sh_1 rfl zft_9_5 rfl (fun h => Bool.noConfusion h) rfl rfl rfl ?_
  refine g_aload_n (pc' := 6)  hc rfl rfl rfl rfl ?_
  refine g_iconst (pc' := 7) (v := (0 : Int32)) hc rfl zki_0 rfl ?_
  refine z_putI (pc' := 10) (L' := [(1, some 4, fun _ => (I 1 4)), (1, some 5, fun _ => (2 : Int32)), (1, some 6, fun _ => (0 : Int32))]) hc rfl rfl rfl sh_1 rfl zft_9_6 rfl (fun h => Bool.noConfusion h) rfl rfl rfl ?_
  refine zjn (G := (fun (g : Int32 × Int32) => match g with | (y3, y4) => pm_ev C_X9_readNumber (d + 1) (pm_call M cost zext d) cost (false, false) 108 0 0 Q 73 [some (.ref 1)] [] 0 0 (zS p q I [(1, some 4, fun _ => y3), (1, some 5, fun _ => (2 : Int32)), (1, some 6, fun _ => y4)] J []))) (zwp_bind h) ?_ (fun h => ?_)
  · rintro ⟨y3, y4⟩ h
    replace h := zws h
    exact g_return hc rfl rfl (fun _ => ⟨rfl, rfl⟩) h
  refine zitr_ev (G := (fun (g : Int32 × Int32) => match g with | (x1, x2) => pm_ev C_X9_readNumber (d + 1) (pm_call M cost zext d) cost (false, false) 108 0 0 Q 10 [some (.ref 1)] [] 0 0 (zS p q I [(1, some 4, fun _ => x1), (1, some 5, fun _ => (2 : Int32)), (1, some 6, fun _ => x2)] J []))) ?_ zFU ((I 1 4), (0 : Int32)) h
  rintro ⟨x1, x2⟩ h
  refine g_aload_n (pc' := 11)  hc rfl rfl rfl rfl ?_
  refine z_getI (pc' := 14) (v := x1) hc rfl rfl rfl sh_1 rfl rfl rfl ?_
  refine g_aload_n (pc' := 15)  hc rfl rfl rfl rfl ?_
  refine z_getI (pc' := 18) (v := (I 1 2)) hc rfl rfl rfl sh_1 rfl rfl rfl ?_
  refine g_icmp_ge (pc' := 21) hc rfl rfl (fun hx => ?_) (fun hx => ?_)
  · replace h := zwp_t h hx
    replace h := zwp_r h
    exact h
  · replace h := zwp_f h hx
    refine g_aload_n (pc' := 22)  hc rfl rfl rfl rfl ?_
    refine z_getR (pc' := 25)  hc rfl rfl rfl sh_1 rfl rfl ?_
    refine g_aload_n (pc' := 26)  hc rfl rfl rfl rfl ?_
    refine z_getI (pc' := 29) (v := x1) hc rfl rfl rfl sh_1 rfl rfl rfl ?_
    have hb := (zwp_bnd h).1
    replace h := (zwp_bnd h).2
    refine z_caload (pc' := 30) (v := (((I 2)) x1.toNatClampNeg)) hc rfl rfl sh_2 hb rfl rfl ?_
    refine z_stat (as := [.int (((I 2)) x1.toNatClampNeg)]) (r := []) hc rfl rfl rfl rfl zco_86 rfl rfl rfl ?_
    refine ok_X9_isDigit (zdp hd rfl) (zwp_mono (zwp_bind h) ?_)
    rintro r5 h
    refine z_po (pc' := 33) (st' := [.int r5]) (v := (some (.int r5))) (L' := [(1, some 4, fun _ => x1), (1, some 5, fun _ => (2 : Int32)), (1, some 6, fun _ => x2)]) (K' := []) zco_86 rfl rfl rfl rfl rfl rfl rfl rfl ?_
    refine g_if_eq (pc' := 36) hc rfl rfl (fun hx => ?_) (fun hx => ?_)
    · replace h := zwp_t h hx
      replace h := zwp_r h
      exact h
    · replace h := zwp_f h hx
      refine g_aload_n (pc' := 37)  hc rfl rfl rfl rfl ?_
      refine g_aload_n (pc' := 38)  hc rfl rfl rfl rfl ?_
      refine z_getI (pc' := 41) (v := x2) hc rfl rfl rfl sh_1 rfl rfl rfl ?_
      refine g_bipush (pc' := 43) (v := (10 : Int32)) hc rfl zkb_10 rfl ?_
      refine g_imul (pc' := 44)  hc rfl rfl ?_
      refine g_aload_n (pc' := 45)  hc rfl rfl rfl rfl ?_
      refine z_getR (pc' := 48)  hc rfl rfl rfl sh_1 rfl rfl ?_
      refine g_aload_n (pc' := 49)  hc rfl rfl rfl rfl ?_
      refine z_getI (pc' := 52) (v := x1) hc rfl rfl rfl sh_1 rfl rfl rfl ?_
      have hb := (zwp_bnd h).1
      replace h := (zwp_bnd h).2
      refine z_caload (pc' := 53) (v := (((I 2)) x1.toNatClampNeg)) hc rfl rfl sh_2 hb rfl rfl ?_
      refine g_bipush (pc' := 55) (v := (48 : Int32)) hc rfl zkb_48 rfl ?_
      refine g_isub (pc' := 56)  hc rfl rfl ?_
      refine g_iadd (pc' := 57)  hc rfl rfl ?_
      refine z_putI (pc' := 60) (L' := [(1, some 4, fun _ => x1), (1, some 5, fun _ => (2 : Int32)), (1, some 6, fun _ => ((x2 * (10 : Int32)) + ((((I 2)) x1.toNatClampNeg) - (48 : Int32))))]) hc rfl rfl rfl sh_1 rfl zft_9_6 rfl (fun h => Bool.noConfusion h) rfl rfl rfl ?_
      refine g_aload_n (pc' := 61)  hc rfl rfl rfl rfl ?_
      refine g_dup (pc' := 62)  hc rfl rfl rfl ?_
      refine z_getI (pc' := 65) (v := x1) hc rfl rfl rfl sh_1 rfl rfl rfl ?_
      refine g_iconst (pc' := 66) (v := (1 : Int32)) hc rfl zki_1 rfl ?_
      refine g_iadd (pc' := 67)  hc rfl rfl ?_
      refine z_putI (pc' := 70) (L' := [(1, some 4, fun _ => (x1 + (1 : Int32))), (1, some 5, fun _ => (2 : Int32)), (1, some 6, fun _ => ((x2 * (10 : Int32)) + ((((I 2)) x1.toNatClampNeg) - (48 : Int32))))]) hc rfl rfl rfl sh_1 rfl zft_9_4 rfl (fun h => Bool.noConfusion h) rfl rfl rfl ?_
      refine g_goto hc rfl ?_
      replace h := zwp_l h
      exact h
set_option maxRecDepth 4000 in
theorem ok_X9_advance_1 {p q : Nat} {I : pI} {J : pJ} {Q : pQ} {d : Nat} (hd : 7 ≤ d) (h : zwp (f_X9_advance (I 2) (I 1 4) (I 1 5) (I 1 2) (I 1 6) (I 1 3)) (fun w => match w with | (o0, o1, o2, o3) => Q (.inl none) (zS p q I [(1, some 3, fun _ => o3), (1, some 4, fun _ => o0), (1, some 5, fun _ => o1), (1, some 6, fun _ => o2)] J []))) : pm_call M cost zext d 83 [.ref 1] (pm_st 108 (shp p q) I J) Q := by
  obtain ⟨d, rfl⟩ := zd1 hd rfl
  have hc := pm_call_m (M := M) (cost := cost) zext_m d
  refine z_in (L := [(1, some 3, fun _ => (I 1 3)), (1, some 4, fun _ => (I 1 4)), (1, some 5, fun _ => (I 1 5)), (1, some 6, fun _ => (I 1 6))]) (K := []) (ls := [some (.ref 1), none]) zmt_83 zco_83 rfl rfl (zid_s (zid_s (zid_s (zid_s zid_n)))) zid_n ?_
  delta f_X9_advance at h
  refine g_aload_n (pc' := 1)  hc rfl rfl rfl rfl ?_
  refine g_aload_n (pc' := 2)  hc rfl rfl rfl rfl ?_
  refine z_getI (pc' := 5) (v := (I 1 4)) hc rfl rfl rfl sh_1 rfl rfl rfl ?_
  refine z_putI (pc' := 8) (L' := [(1, some 3, fun _ => (I 1 4)), (1, some 4, fun _ => (I 1 4)), (1, some 5, fun _ => (I 1 5)), (1, some 6, fun _ => (I 1 6))]) hc rfl rfl rfl sh_1 rfl zft_9_3 rfl (fun h => Bool.noConfusion h) rfl rfl rfl ?_
  refine zjn (G := (fun (y2 : Int32) => pm_ev C_X9_advance (d + 1) (pm_call M cost zext d) cost (false, false) 108 0 0 Q 60 [some (.ref 1), none] [] 0 0 (zS p q I [(1, some 3, fun _ => y2), (1, some 4, fun _ => (I 1 4)), (1, some 5, fun _ => (I 1 5)), (1, some 6, fun _ => (I 1 6))] J []))) (zwp_bind h) ?_ (fun h => ?_)
  · rintro y2 h
    refine g_aload_n (pc' := 61)  hc rfl rfl rfl rfl ?_
    refine g_aload_n (pc' := 62)  hc rfl rfl rfl rfl ?_
    refine z_getI (pc' := 65) (v := y2) hc rfl rfl rfl sh_1 rfl rfl rfl ?_
    refine z_putI (pc' := 68) (L' := [(1, some 3, fun _ => y2), (1, some 4, fun _ => y2), (1, some 5, fun _ => (I 1 5)), (1, some 6, fun _ => (I 1 6))]) hc rfl rfl rfl sh_1 rfl zft_9_4 rfl (fun h => Bool.noConfusion h) rfl rfl rfl ?_
    refine g_aload_n (pc' := 69)  hc rfl rfl rfl rfl ?_
    refine z_getI (pc' := 72) (v := y2) hc rfl rfl rfl sh_1 rfl rfl rfl ?_
    refine g_aload_n (pc' := 73)  hc rfl rfl rfl rfl ?_
    refine z_getI (pc' := 76) (v := (I 1 2)) hc rfl rfl rfl sh_1 rfl rfl rfl ?_
    refine g_icmp_lt (pc' := 79) hc rfl rfl (fun hx => ?_) (fun hx => ?_)
    · replace h := zwp_t h hx
      refine g_aload_n (pc' := 86)  hc rfl rfl rfl rfl ?_
      refine z_getR (pc' := 89)  hc rfl rfl rfl sh_1 rfl rfl ?_
      refine g_aload_n (pc' := 90)  hc rfl rfl rfl rfl ?_
      refine z_getI (pc' := 93) (v := y2) hc rfl rfl rfl sh_1 rfl rfl rfl ?_
      have hb := (zwp_bnd h).1
      replace h := (zwp_bnd h).2
      refine z_caload (pc' := 94) (v := (((I 2)) y2.toNatClampNeg)) hc rfl rfl sh_2 hb rfl rfl ?_
      refine g_istore_n (pc' := 95) (ls1 := [some (.ref 1), some (.int (((I 2)) y2.toNatClampNeg))]) hc rfl (zlt rfl) rfl rfl ?_
      refine g_iload_n (pc' := 96)  hc rfl rfl rfl ?_
      refine z_stat (as := [.int (((I 2)) y2.toNatClampNeg)]) (r := []) hc rfl rfl rfl rfl zco_85 rfl rfl rfl ?_
      refine ok_X9_isLetter (zdp hd rfl) (zwp_mono (zwp_bind h) ?_)
      rintro r3 h
      refine z_po (pc' := 99) (st' := [.int r3]) (v := (some (.int r3))) (L' := [(1, some 3, fun _ => y2), (1, some 4, fun _ => y2), (1, some 5, fun _ => (I 1 5)), (1, some 6, fun _ => (I 1 6))]) (K' := []) zco_85 rfl rfl rfl rfl rfl rfl rfl rfl ?_
      refine g_if_eq (pc' := 102) hc rfl rfl (fun hx => ?_) (fun hx => ?_)
      · replace h := zwp_t h hx
        refine g_iload_n (pc' := 147)  hc rfl rfl rfl ?_
        refine z_stat (as := [.int (((I 2)) y2.toNatClampNeg)]) (r := []) hc rfl rfl rfl rfl zco_86 rfl rfl rfl ?_
        refine ok_X9_isDigit (zdp hd rfl) (zwp_mono (zwp_bind h) ?_)
        rintro r4 h
        refine z_po (pc' := 150) (st' := [.int r4]) (v := (some (.int r4))) (L' := [(1, some 3, fun _ => y2), (1, some 4, fun _ => y2), (1, some 5, fun _ => (I 1 5)), (1, some 6, fun _ => (I 1 6))]) (K' := []) zco_86 rfl rfl rfl rfl rfl rfl rfl rfl ?_
        refine g_if_eq (pc' := 153) hc rfl rfl (fun hx => ?_) (fun hx => ?_)
        · replace h := zwp_t h hx
          refine g_aload_n (pc' := 161)  hc rfl rfl rfl rfl ?_
          refine g_ldc_t (pc' := 163)  hc rfl rfl rfl ?_
          refine g_iload_n (pc' := 164)  hc rfl rfl rfl ?_
          refine z_text (as := [.int (((I 2)) y2.toNatClampNeg)]) (b := 1) (r := [.ref 1]) hc rfl rfl rfl (zlt rfl) rfl zco_271 rfl rfl rfl ?_
          refine okx_271 (zdp hd rfl) (zlt rfl) (zwp_mono (zwp_bind h) ?_)
          rintro v5 h
          refine z_po (pc' := 167) (st' := [.int v5, .ref 1]) (L' := [(1, some 3, fun _ => y2), (1, some 4, fun _ => y2), (1, some 5, fun _ => (I 1 5)), (1, some 6, fun _ => (I 1 6))]) (K' := []) zco_271 rfl rfl rfl rfl rfl rfl rfl rfl ?_
          refine zjn (G := (fun (j6 : Int32) => pm_ev C_X9_advance (d + 1) (pm_call M cost zext d) cost (false, false) 108 0 0 Q 175 [some (.ref 1), some (.int (((I 2)) y2.toNatClampNeg))] [.int j6, .ref 1] 0 0 (zS p q I [(1, some 3, fun _ => y2), (1, some 4, fun _ => y2), (1, some 5, fun _ => (I 1 5)), (1, some 6, fun _ => (I 1 6))] J []))) (zwp_bind h) ?_ (fun h => ?_)
          · rintro j6 h
            refine z_putI (pc' := 178) (L' := [(1, some 3, fun _ => y2), (1, some 4, fun _ => y2), (1, some 5, fun _ => j6), (1, some 6, fun _ => (I 1 6))]) hc rfl rfl rfl sh_1 rfl zft_9_5 rfl (fun h => Bool.noConfusion h) rfl rfl rfl ?_
            refine g_aload_n (pc' := 179)  hc rfl rfl rfl rfl ?_
            refine g_dup (pc' := 180)  hc rfl rfl rfl ?_
            refine z_getI (pc' := 183) (v := y2) hc rfl rfl rfl sh_1 rfl rfl rfl ?_
            refine g_iconst (pc' := 184) (v := (1 : Int32)) hc rfl zki_1 rfl ?_
            refine g_iadd (pc' := 185)  hc rfl rfl ?_
            refine z_putI (pc' := 188) (L' := [(1, some 3, fun _ => y2), (1, some 4, fun _ => (y2 + (1 : Int32))), (1, some 5, fun _ => j6), (1, some 6, fun _ => (I 1 6))]) hc rfl rfl rfl sh_1 rfl zft_9_4 rfl (fun h => Bool.noConfusion h) rfl rfl rfl ?_
            replace h := zws h
            exact g_return hc rfl rfl (fun _ => ⟨rfl, rfl⟩) h
          refine g_if_lt (pc' := 170) hc rfl rfl (fun hx => ?_) (fun hx => ?_)
          · replace h := zwp_t h hx
            refine g_iconst (pc' := 175) (v := (4 : Int32)) hc rfl zki_4 rfl ?_
            replace h := zws h
            exact h
          · replace h := zwp_f h hx
            refine g_iconst (pc' := 171) (v := (3 : Int32)) hc rfl zki_3 rfl ?_
            refine g_goto hc rfl ?_
            replace h := zws h
            exact h
        · replace h := zwp_f h hx
          refine g_aload_n (pc' := 154)  hc rfl rfl rfl rfl ?_
          refine z_virt (as := []) (a := 1) (r := []) hc rfl rfl rfl rfl sh_1 rfl zco_84 rfl rfl rfl ?_
          refine ok_X9_readNumber_1 (zdp hd rfl) (zwp_mono (zwp_bind h) ?_)
          rintro ⟨o7, o8, o9⟩ h
          refine z_po (pc' := 157) (st' := []) (v := none) (L' := [(1, some 3, fun _ => y2), (1, some 4, fun _ => o7), (1, some 5, fun _ => o8), (1, some 6, fun _ => o9)]) (K' := []) zco_84 rfl rfl rfl rfl rfl rfl rfl rfl ?_
          refine g_goto hc rfl ?_
          replace h := zws h
          exact g_return hc rfl rfl (fun _ => ⟨rfl, rfl⟩) h
      · replace h := zwp_f h hx
        refine g_aload_n (pc' := 103)  hc rfl rfl rfl rfl ?_
        refine g_iconst (pc' := 104) (v := (1 : Int32)) hc rfl zki_1 rfl ?_
        refine z_putI (pc' := 107) (L' := [(1, some 3, fun _ => y2), (1, some 4, fun _ => y2), (1, some 5, fun _ => (1 : Int32)), (1, some 6, fun _ => (I 1 6))]) hc rfl rfl rfl sh_1 rfl zft_9_5 rfl (fun h => Bool.noConfusion h) rfl rfl rfl ?_
        refine zjn (G := (fun (y11 : Int32) => pm_ev C_X9_advance (d + 1) (pm_call M cost zext d) cost (false, false) 108 0 0 Q 188 [some (.ref 1), some (.int (((I 2)) y2.toNatClampNeg))] [] 0 0 (zS p q I [(1, some 3, fun _ => y2), (1, some 4, fun _ => y11), (1, some 5, fun _ => (1 : Int32)), (1, some 6, fun _ => (I 1 6))] J []))) (zwp_bind h) ?_ (fun h => ?_)
        · rintro y11 h
          replace h := zws h
          exact g_return hc rfl rfl (fun _ => ⟨rfl, rfl⟩) h
        refine zitr_ev (G := (fun (x10 : Int32) => pm_ev C_X9_advance (d + 1) (pm_call M cost zext d) cost (false, false) 108 0 0 Q 107 [some (.ref 1), some (.int (((I 2)) y2.toNatClampNeg))] [] 0 0 (zS p q I [(1, some 3, fun _ => y2), (1, some 4, fun _ => x10), (1, some 5, fun _ => (1 : Int32)), (1, some 6, fun _ => (I 1 6))] J []))) ?_ zFU y2 h
        rintro x10 h
        refine g_aload_n (pc' := 108)  hc rfl rfl rfl rfl ?_
        refine z_getI (pc' := 111) (v := x10) hc rfl rfl rfl sh_1 rfl rfl rfl ?_
        refine g_aload_n (pc' := 112)  hc rfl rfl rfl rfl ?_
        refine z_getI (pc' := 115) (v := (I 1 2)) hc rfl rfl rfl sh_1 rfl rfl rfl ?_
        refine g_icmp_ge (pc' := 118) hc rfl rfl (fun hx => ?_) (fun hx => ?_)
        · replace h := zwp_t h hx
          replace h := zwp_r h
          exact h
        · replace h := zwp_f h hx
          refine g_aload_n (pc' := 119)  hc rfl rfl rfl rfl ?_
          refine z_getR (pc' := 122)  hc rfl rfl rfl sh_1 rfl rfl ?_
          refine g_aload_n (pc' := 123)  hc rfl rfl rfl rfl ?_
          refine z_getI (pc' := 126) (v := x10) hc rfl rfl rfl sh_1 rfl rfl rfl ?_
          have hb := (zwp_bnd h).1
          replace h := (zwp_bnd h).2
          refine z_caload (pc' := 127) (v := (((I 2)) x10.toNatClampNeg)) hc rfl rfl sh_2 hb rfl rfl ?_
          refine z_stat (as := [.int (((I 2)) x10.toNatClampNeg)]) (r := []) hc rfl rfl rfl rfl zco_85 rfl rfl rfl ?_
          refine ok_X9_isLetter (zdp hd rfl) (zwp_mono (zwp_bind h) ?_)
          rintro r12 h
          refine z_po (pc' := 130) (st' := [.int r12]) (v := (some (.int r12))) (L' := [(1, some 3, fun _ => y2), (1, some 4, fun _ => x10), (1, some 5, fun _ => (1 : Int32)), (1, some 6, fun _ => (I 1 6))]) (K' := []) zco_85 rfl rfl rfl rfl rfl rfl rfl rfl ?_
          refine g_if_eq (pc' := 133) hc rfl rfl (fun hx => ?_) (fun hx => ?_)
          · replace h := zwp_t h hx
            replace h := zwp_r h
            exact h
          · replace h := zwp_f h hx
            refine g_aload_n (pc' := 134)  hc rfl rfl rfl rfl ?_
            refine g_dup (pc' := 135)  hc rfl rfl rfl ?_
            refine z_getI (pc' := 138) (v := x10) hc rfl rfl rfl sh_1 rfl rfl rfl ?_
            refine g_iconst (pc' := 139) (v := (1 : Int32)) hc rfl zki_1 rfl ?_
            refine g_iadd (pc' := 140)  hc rfl rfl ?_
            refine z_putI (pc' := 143) (L' := [(1, some 3, fun _ => y2), (1, some 4, fun _ => (x10 + (1 : Int32))), (1, some 5, fun _ => (1 : Int32)), (1, some 6, fun _ => (I 1 6))]) hc rfl rfl rfl sh_1 rfl zft_9_4 rfl (fun h => Bool.noConfusion h) rfl rfl rfl ?_
            refine g_goto hc rfl ?_
            replace h := zwp_l h
            exact h
    · replace h := zwp_f h hx
      refine g_aload_n (pc' := 80)  hc rfl rfl rfl rfl ?_
      refine g_iconst (pc' := 81) (v := (0 : Int32)) hc rfl zki_0 rfl ?_
      refine z_putI (pc' := 84) (L' := [(1, some 3, fun _ => y2), (1, some 4, fun _ => y2), (1, some 5, fun _ => (0 : Int32)), (1, some 6, fun _ => (I 1 6))]) hc rfl rfl rfl sh_1 rfl zft_9_5 rfl (fun h => Bool.noConfusion h) rfl rfl rfl ?_
      replace h := zws h
      exact g_return hc rfl rfl (fun _ => ⟨rfl, rfl⟩) h
  refine zitr_ev (G := (fun (x1 : Int32) => pm_ev C_X9_advance (d + 1) (pm_call M cost zext d) cost (false, false) 108 0 0 Q 8 [some (.ref 1), none] [] 0 0 (zS p q I [(1, some 3, fun _ => x1), (1, some 4, fun _ => (I 1 4)), (1, some 5, fun _ => (I 1 5)), (1, some 6, fun _ => (I 1 6))] J []))) ?_ zFU ((I 1 4)) h
  rintro x1 h
  refine g_aload_n (pc' := 9)  hc rfl rfl rfl rfl ?_
  refine z_getI (pc' := 12) (v := x1) hc rfl rfl rfl sh_1 rfl rfl rfl ?_
  refine g_aload_n (pc' := 13)  hc rfl rfl rfl rfl ?_
  refine z_getI (pc' := 16) (v := (I 1 2)) hc rfl rfl rfl sh_1 rfl rfl rfl ?_
  refine g_icmp_ge (pc' := 19) hc rfl rfl (fun hx => ?_) (fun hx => ?_)
  · replace h := zwp_t h hx
    replace h := zwp_r h
    exact h
  · replace h := zwp_f h hx
    refine g_aload_n (pc' := 20)  hc rfl rfl rfl rfl ?_
    refine z_getR (pc' := 23)  hc rfl rfl rfl sh_1 rfl rfl ?_
    refine g_aload_n (pc' := 24)  hc rfl rfl rfl rfl ?_
    refine z_getI (pc' := 27) (v := x1) hc rfl rfl rfl sh_1 rfl rfl rfl ?_
    have hb := (zwp_bnd h).1
    replace h := (zwp_bnd h).2
    refine z_caload (pc' := 28) (v := (((I 2)) x1.toNatClampNeg)) hc rfl rfl sh_2 hb rfl rfl ?_
    refine g_bipush (pc' := 30) (v := (32 : Int32)) hc rfl zkb_32 rfl ?_
    refine g_icmp_eq (pc' := 33) hc rfl rfl (fun hx => ?_) (fun hx => ?_)
    · replace h := zwp_t h hx
      refine g_aload_n (pc' := 48)  hc rfl rfl rfl rfl ?_
      refine g_dup (pc' := 49)  hc rfl rfl rfl ?_
      refine z_getI (pc' := 52) (v := x1) hc rfl rfl rfl sh_1 rfl rfl rfl ?_
      refine g_iconst (pc' := 53) (v := (1 : Int32)) hc rfl zki_1 rfl ?_
      refine g_iadd (pc' := 54)  hc rfl rfl ?_
      refine z_putI (pc' := 57) (L' := [(1, some 3, fun _ => (x1 + (1 : Int32))), (1, some 4, fun _ => (I 1 4)), (1, some 5, fun _ => (I 1 5)), (1, some 6, fun _ => (I 1 6))]) hc rfl rfl rfl sh_1 rfl zft_9_3 rfl (fun h => Bool.noConfusion h) rfl rfl rfl ?_
      refine g_goto hc rfl ?_
      replace h := zwp_l h
      exact h
    · replace h := zwp_f h hx
      refine g_aload_n (pc' := 34)  hc rfl rfl rfl rfl ?_
      refine z_getR (pc' := 37)  hc rfl rfl rfl sh_1 rfl rfl ?_
      refine g_aload_n (pc' := 38)  hc rfl rfl rfl rfl ?_
      refine z_getI (pc' := 41) (v := x1) hc rfl rfl rfl sh_1 rfl rfl rfl ?_
      have hb := (zwp_bnd h).1
      replace h := (zwp_bnd h).2
      refine z_caload (pc' := 42) (v := (((I 2)) x1.toNatClampNeg)) hc rfl rfl sh_2 hb rfl rfl ?_
      refine g_bipush (pc' := 44) (v := (10 : Int32)) hc rfl zkb_10 rfl ?_
      refine g_icmp_ne (pc' := 47) hc rfl rfl (fun hx => ?_) (fun hx => ?_)
      · replace h := zwp_f h hx
        replace h := zwp_r h
        exact h
      · replace h := zwp_t h hx
        refine g_aload_n (pc' := 48)  hc rfl rfl rfl rfl ?_
        refine g_dup (pc' := 49)  hc rfl rfl rfl ?_
        refine z_getI (pc' := 52) (v := x1) hc rfl rfl rfl sh_1 rfl rfl rfl ?_
        refine g_iconst (pc' := 53) (v := (1 : Int32)) hc rfl zki_1 rfl ?_
        refine g_iadd (pc' := 54)  hc rfl rfl ?_
        refine z_putI (pc' := 57) (L' := [(1, some 3, fun _ => (x1 + (1 : Int32))), (1, some 4, fun _ => (I 1 4)), (1, some 5, fun _ => (I 1 5)), (1, some 6, fun _ => (I 1 6))]) hc rfl rfl rfl sh_1 rfl zft_9_3 rfl (fun h => Bool.noConfusion h) rfl rfl rfl ?_
        refine g_goto hc rfl ?_
        replace h := zwp_l h
        exact h
set_option maxRecDepth 4000 in
theorem ok_X9_begin_1 {p q : Nat} {I : pI} {J : pJ} {a1 : Int32} {Q : pQ} {d : Nat} (hd : 8 ≤ d) (h : zwp (f_X9_begin a1 (I 2) (I 1 4) (I 1 5) (I 1 2) (I 1 6) (I 1 3)) (fun w => match w with | (o0, o1, o2, o3, o4) => Q (.inl none) (zS p q I [(1, some 2, fun _ => o2), (1, some 3, fun _ => o4), (1, some 4, fun _ => o0), (1, some 5, fun _ => o1), (1, some 6, fun _ => o3)] J []))) : pm_call M cost zext d 82 [.ref 1, .int a1] (pm_st 108 (shp p q) I J) Q := by
  obtain ⟨d, rfl⟩ := zd1 hd rfl
  have hc := pm_call_m (M := M) (cost := cost) zext_m d
  refine z_in (L := [(1, some 2, fun _ => (I 1 2)), (1, some 3, fun _ => (I 1 3)), (1, some 4, fun _ => (I 1 4)), (1, some 5, fun _ => (I 1 5)), (1, some 6, fun _ => (I 1 6))]) (K := []) (ls := [some (.ref 1), some (.int a1)]) zmt_82 zco_82 rfl rfl (zid_s (zid_s (zid_s (zid_s (zid_s zid_n))))) zid_n ?_
  delta f_X9_begin at h
  refine g_aload_n (pc' := 1)  hc rfl rfl rfl rfl ?_
  refine g_iload_n (pc' := 2)  hc rfl rfl rfl ?_
  refine z_putI (pc' := 5) (L' := [(1, some 2, fun _ => a1), (1, some 3, fun _ => (I 1 3)), (1, some 4, fun _ => (I 1 4)), (1, some 5, fun _ => (I 1 5)), (1, some 6, fun _ => (I 1 6))]) hc rfl rfl rfl sh_1 rfl zft_9_2 rfl (fun h => Bool.noConfusion h) rfl rfl rfl ?_
  refine g_aload_n (pc' := 6)  hc rfl rfl rfl rfl ?_
  refine g_iconst (pc' := 7) (v := (0 : Int32)) hc rfl zki_0 rfl ?_
  refine z_putI (pc' := 10) (L' := [(1, some 2, fun _ => a1), (1, some 3, fun _ => (I 1 3)), (1, some 4, fun _ => (0 : Int32)), (1, some 5, fun _ => (I 1 5)), (1, some 6, fun _ => (I 1 6))]) hc rfl rfl rfl sh_1 rfl zft_9_4 rfl (fun h => Bool.noConfusion h) rfl rfl rfl ?_
  refine g_aload_n (pc' := 11)  hc rfl rfl rfl rfl ?_
  refine z_virt (as := []) (a := 1) (r := []) hc rfl rfl rfl rfl sh_1 rfl zco_83 rfl rfl rfl ?_
  refine ok_X9_advance_1 (zdp hd rfl) (zwp_mono (zwp_bind h) ?_)
  rintro ⟨o1, o2, o3, o4⟩ h
  refine z_po (pc' := 14) (st' := []) (v := none) (L' := [(1, some 2, fun _ => a1), (1, some 3, fun _ => o4), (1, some 4, fun _ => o1), (1, some 5, fun _ => o2), (1, some 6, fun _ => o3)]) (K' := []) zco_83 rfl rfl rfl rfl rfl rfl rfl rfl ?_
  replace h := zws h
  exact g_return hc rfl rfl (fun _ => ⟨rfl, rfl⟩) h
set_option maxRecDepth 4000 in
theorem ok_X9_isWord_1 {p q : Nat} {I : pI} {J : pJ} {a1 : Nat} {Q : pQ} {d : Nat} (hd : 7 ≤ d) (hk : a1 < 26) (h : zwp (f_X9_isWord a1 (I 2) (I 1 4) (I 1 5) (I 1 3)) (fun r => Q (.inl (some (.int r))) (zS p q I [] J []))) : pm_call M cost zext d 90 [.ref 1, .retAddr a1] (pm_st 108 (shp p q) I J) Q := by
  obtain ⟨d, rfl⟩ := zd1 hd rfl
  have hc := pm_call_m (M := M) (cost := cost) zext_m d
  refine z_in (L := []) (K := []) (ls := [some (.ref 1), some (.retAddr a1), none]) zmt_90 zco_90 rfl rfl zid_n zid_n ?_
  delta f_X9_isWord at h
  refine g_aload_n (pc' := 1)  hc rfl rfl rfl rfl ?_
  refine z_getI (pc' := 4) (v := (I 1 5)) hc rfl rfl rfl sh_1 rfl rfl rfl ?_
  refine g_iconst (pc' := 5) (v := (1 : Int32)) hc rfl zki_1 rfl ?_
  refine g_icmp_ne (pc' := 8) hc rfl rfl (fun hx => ?_) (fun hx => ?_)
  · replace h := zwp_f h hx
    refine g_iconst (pc' := 25) (v := (0 : Int32)) hc rfl zki_0 rfl ?_
    replace h := zws h
    exact g_ireturn hc rfl rfl rfl (fun _ => ⟨rfl, rfl⟩) h
  · replace h := zwp_t h hx
    refine g_aload_n (pc' := 9)  hc rfl rfl rfl rfl ?_
    refine z_getI (pc' := 12) (v := (I 1 4)) hc rfl rfl rfl sh_1 rfl rfl rfl ?_
    refine g_aload_n (pc' := 13)  hc rfl rfl rfl rfl ?_
    refine z_getI (pc' := 16) (v := (I 1 3)) hc rfl rfl rfl sh_1 rfl rfl rfl ?_
    refine g_isub (pc' := 17)  hc rfl rfl ?_
    refine g_aload_n (pc' := 18)  hc rfl rfl rfl rfl ?_
    refine z_text (as := []) (b := a1) (r := [.int (((I 1 4)) - ((I 1 3)))]) hc rfl rfl rfl hk rfl zco_269 rfl rfl rfl ?_
    refine okx_269 (zdp hd rfl) hk (zwp_mono (zwp_bind h) ?_)
    rintro v1 h
    refine z_po (pc' := 21) (st' := [.int v1, .int (((I 1 4)) - ((I 1 3)))]) (L' := []) (K' := []) zco_269 rfl rfl rfl rfl rfl rfl rfl rfl ?_
    refine g_icmp_eq (pc' := 24) hc rfl rfl (fun hx => ?_) (fun hx => ?_)
    · replace h := zwp_t h hx
      refine g_iconst (pc' := 27) (v := (0 : Int32)) hc rfl zki_0 rfl ?_
      refine g_istore_n (pc' := 28) (ls1 := [some (.ref 1), some (.retAddr a1), some (.int (0 : Int32))]) hc rfl (zlt rfl) rfl rfl ?_
      refine zjs (G := (fun (_ : Unit) => ∀ z3 : Option Value, znl z3 = true → pm_ev C_X9_isWord (d + 1) (pm_call M cost zext d) cost (false, false) 108 0 0 Q 63 [some (.ref 1), some (.retAddr a1), z3] [] 0 0 (zS p q I [] J []))) h ?_ (fun h => ?_)
      · rintro _ h z3 hz3
        refine g_iconst (pc' := 64) (v := (1 : Int32)) hc rfl zki_1 rfl ?_
        replace h := zws h
        exact g_ireturn hc rfl rfl rfl (fun _ => ⟨rfl, rfl⟩) h
      refine zitr_ev (G := (fun (x2 : Int32) => pm_ev C_X9_isWord (d + 1) (pm_call M cost zext d) cost (false, false) 108 0 0 Q 28 [some (.ref 1), some (.retAddr a1), some (.int x2)] [] 0 0 (zS p q I [] J []))) ?_ zFU (0 : Int32) h
      rintro x2 h
      refine g_iload_n (pc' := 29)  hc rfl rfl rfl ?_
      refine g_aload_n (pc' := 30)  hc rfl rfl rfl rfl ?_
      refine z_text (as := []) (b := a1) (r := [.int x2]) hc rfl rfl rfl hk rfl zco_269 rfl rfl rfl ?_
      refine okx_269 (zdp hd rfl) hk (zwp_mono (zwp_bind h) ?_)
      rintro v4 h
      refine z_po (pc' := 33) (st' := [.int v4, .int x2]) (L' := []) (K' := []) zco_269 rfl rfl rfl rfl rfl rfl rfl rfl ?_
      refine g_icmp_ge (pc' := 36) hc rfl rfl (fun hx => ?_) (fun hx => ?_)
      · replace h := zwp_t h hx
        replace h := zwp_r h
        exact h (some (.int x2)) rfl
      · replace h := zwp_f h hx
        refine g_aload_n (pc' := 37)  hc rfl rfl rfl rfl ?_
        refine z_getR (pc' := 40)  hc rfl rfl rfl sh_1 rfl rfl ?_
        refine g_aload_n (pc' := 41)  hc rfl rfl rfl rfl ?_
        refine z_getI (pc' := 44) (v := (I 1 3)) hc rfl rfl rfl sh_1 rfl rfl rfl ?_
        refine g_iload_n (pc' := 45)  hc rfl rfl rfl ?_
        refine g_iadd (pc' := 46)  hc rfl rfl ?_
        have hb := (zwp_bnd h).1
        replace h := (zwp_bnd h).2
        refine z_caload (pc' := 47) (v := (((I 2)) (((I 1 3)) + x2).toNatClampNeg)) hc rfl rfl sh_2 hb rfl rfl ?_
        refine g_aload_n (pc' := 48)  hc rfl rfl rfl rfl ?_
        refine g_iload_n (pc' := 49)  hc rfl rfl rfl ?_
        refine z_text (as := [.int x2]) (b := a1) (r := [.int (((I 2)) (((I 1 3)) + x2).toNatClampNeg)]) hc rfl rfl rfl hk rfl zco_270 rfl rfl rfl ?_
        refine okx_270 (zdp hd rfl) hk (zwp_mono (zwp_bind h) ?_)
        rintro v5 h
        refine z_po (pc' := 52) (st' := [.int v5, .int (((I 2)) (((I 1 3)) + x2).toNatClampNeg)]) (L' := []) (K' := []) zco_270 rfl rfl rfl rfl rfl rfl rfl rfl ?_
        refine g_icmp_eq (pc' := 55) hc rfl rfl (fun hx => ?_) (fun hx => ?_)
        · replace h := zwp_t h hx
          refine g_iinc (pc' := 60) (ls1 := [some (.ref 1), some (.retAddr a1), some (.int (x2 + (1 : Int32)))]) hc rfl rfl zki_1 (zlt rfl) rfl rfl ?_
          refine g_goto hc rfl ?_
          replace h := zwp_l h
          exact h
        · replace h := zwp_f h hx
          refine g_iconst (pc' := 56) (v := (0 : Int32)) hc rfl zki_0 rfl ?_
          replace h := zws h
          exact g_ireturn hc rfl rfl rfl (fun _ => ⟨rfl, rfl⟩) h
    · replace h := zwp_f h hx
      refine g_iconst (pc' := 25) (v := (0 : Int32)) hc rfl zki_0 rfl ?_
      replace h := zws h
      exact g_ireturn hc rfl rfl rfl (fun _ => ⟨rfl, rfl⟩) h
set_option maxRecDepth 4000 in
theorem ok_X9_numberFault_1 {p q : Nat} {I : pI} {J : pJ} {a1 : Int32} {a2 : Int32} {Q : pQ} {d : Nat} (hd : 1 ≤ d) (h : zwp (f_X9_numberFault a1 a2 (I 1 4) (I 1 5) (I 1 6) (I 1 3)) (fun r => Q (.inl (some (.int r))) (zS p q I [] J []))) : pm_call M cost zext d 87 [.ref 1, .int a1, .int a2] (pm_st 108 (shp p q) I J) Q := by
  obtain ⟨d, rfl⟩ := zd1 hd rfl
  have hc := pm_call_m (M := M) (cost := cost) zext_m d
  refine z_in (L := []) (K := []) (ls := [some (.ref 1), some (.int a1), some (.int a2)]) zmt_87 zco_87 rfl rfl zid_n zid_n ?_
  delta f_X9_numberFault at h
  refine g_aload_n (pc' := 1)  hc rfl rfl rfl rfl ?_
  refine z_getI (pc' := 4) (v := (I 1 5)) hc rfl rfl rfl sh_1 rfl rfl rfl ?_
  refine g_iconst (pc' := 5) (v := (2 : Int32)) hc rfl zki_2 rfl ?_
  refine g_icmp_eq (pc' := 8) hc rfl rfl (fun hx => ?_) (fun hx => ?_)
  · replace h := zwp_t h hx
    refine g_aload_n (pc' := 11)  hc rfl rfl rfl rfl ?_
    refine z_getI (pc' := 14) (v := (I 1 4)) hc rfl rfl rfl sh_1 rfl rfl rfl ?_
    refine g_aload_n (pc' := 15)  hc rfl rfl rfl rfl ?_
    refine z_getI (pc' := 18) (v := (I 1 3)) hc rfl rfl rfl sh_1 rfl rfl rfl ?_
    refine g_isub (pc' := 19)  hc rfl rfl ?_
    refine g_iconst (pc' := 20) (v := (4 : Int32)) hc rfl zki_4 rfl ?_
    refine g_icmp_le (pc' := 23) hc rfl rfl (fun hx => ?_) (fun hx => ?_)
    · replace h := zwp_t h hx
      refine g_aload_n (pc' := 26)  hc rfl rfl rfl rfl ?_
      refine z_getI (pc' := 29) (v := (I 1 6)) hc rfl rfl rfl sh_1 rfl rfl rfl ?_
      refine g_iload_n (pc' := 30)  hc rfl rfl rfl ?_
      refine g_icmp_lt (pc' := 33) hc rfl rfl (fun hx => ?_) (fun hx => ?_)
      · replace h := zwp_t h hx
        refine g_iconst (pc' := 42) (v := (2 : Int32)) hc rfl zki_2 rfl ?_
        refine g_goto hc rfl ?_
        replace h := zws h
        exact g_ireturn hc rfl rfl rfl (fun _ => ⟨rfl, rfl⟩) h
      · replace h := zwp_f h hx
        refine g_aload_n (pc' := 34)  hc rfl rfl rfl rfl ?_
        refine z_getI (pc' := 37) (v := (I 1 6)) hc rfl rfl rfl sh_1 rfl rfl rfl ?_
        refine g_iload_n (pc' := 38)  hc rfl rfl rfl ?_
        refine g_icmp_le (pc' := 41) hc rfl rfl (fun hx => ?_) (fun hx => ?_)
        · replace h := zwp_t h hx
          refine g_iconst (pc' := 46) (v := (0 : Int32)) hc rfl zki_0 rfl ?_
          replace h := zws h
          exact g_ireturn hc rfl rfl rfl (fun _ => ⟨rfl, rfl⟩) h
        · replace h := zwp_f h hx
          refine g_iconst (pc' := 42) (v := (2 : Int32)) hc rfl zki_2 rfl ?_
          refine g_goto hc rfl ?_
          replace h := zws h
          exact g_ireturn hc rfl rfl rfl (fun _ => ⟨rfl, rfl⟩) h
    · replace h := zwp_f h hx
      refine g_iconst (pc' := 24) (v := (2 : Int32)) hc rfl zki_2 rfl ?_
      replace h := zws h
      exact g_ireturn hc rfl rfl rfl (fun _ => ⟨rfl, rfl⟩) h
  · replace h := zwp_f h hx
    refine g_iconst (pc' := 9) (v := (1 : Int32)) hc rfl zki_1 rfl ?_
    replace h := zws h
    exact g_ireturn hc rfl rfl rfl (fun _ => ⟨rfl, rfl⟩) h
set_option maxRecDepth 4000 in
theorem ok_X9_isSign_1 {p q : Nat} {I : pI} {J : pJ} {a1 : Int32} {Q : pQ} {d : Nat} (hd : 1 ≤ d) (h : zwp (f_X9_isSign a1 (I 2) (I 1 5) (I 1 3)) (fun r => Q (.inl (some (.int r))) (zS p q I [] J []))) : pm_call M cost zext d 88 [.ref 1, .int a1] (pm_st 108 (shp p q) I J) Q := by
  obtain ⟨d, rfl⟩ := zd1 hd rfl
  have hc := pm_call_m (M := M) (cost := cost) zext_m d
  refine z_in (L := []) (K := []) (ls := [some (.ref 1), some (.int a1)]) zmt_88 zco_88 rfl rfl zid_n zid_n ?_
  delta f_X9_isSign at h
  refine g_aload_n (pc' := 1)  hc rfl rfl rfl rfl ?_
  refine z_getI (pc' := 4) (v := (I 1 5)) hc rfl rfl rfl sh_1 rfl rfl rfl ?_
  refine g_iconst (pc' := 5) (v := (3 : Int32)) hc rfl zki_3 rfl ?_
  refine g_icmp_ne (pc' := 8) hc rfl rfl (fun hx => ?_) (fun hx => ?_)
  · replace h := zwp_f h hx
    refine g_iconst (pc' := 26) (v := (0 : Int32)) hc rfl zki_0 rfl ?_
    replace h := zws h
    exact g_ireturn hc rfl rfl rfl (fun _ => ⟨rfl, rfl⟩) h
  · replace h := zwp_t h hx
    refine g_aload_n (pc' := 9)  hc rfl rfl rfl rfl ?_
    refine z_getR (pc' := 12)  hc rfl rfl rfl sh_1 rfl rfl ?_
    refine g_aload_n (pc' := 13)  hc rfl rfl rfl rfl ?_
    refine z_getI (pc' := 16) (v := (I 1 3)) hc rfl rfl rfl sh_1 rfl rfl rfl ?_
    have hb := (zwp_bnd h).1
    replace h := (zwp_bnd h).2
    refine z_caload (pc' := 17) (v := (((I 2)) ((I 1 3)).toNatClampNeg)) hc rfl rfl sh_2 hb rfl rfl ?_
    refine g_iload_n (pc' := 18)  hc rfl rfl rfl ?_
    refine g_icmp_ne (pc' := 21) hc rfl rfl (fun hx => ?_) (fun hx => ?_)
    · replace h := zwp_f h hx
      refine g_iconst (pc' := 26) (v := (0 : Int32)) hc rfl zki_0 rfl ?_
      replace h := zws h
      exact g_ireturn hc rfl rfl rfl (fun _ => ⟨rfl, rfl⟩) h
    · replace h := zwp_t h hx
      refine g_iconst (pc' := 22) (v := (1 : Int32)) hc rfl zki_1 rfl ?_
      refine g_goto hc rfl ?_
      replace h := zws h
      exact g_ireturn hc rfl rfl rfl (fun _ => ⟨rfl, rfl⟩) h
set_option maxRecDepth 4000 in
theorem ok_X4_readStop_1 {p q : Nat} {I : pI} {J : pJ} {Q : pQ} {d : Nat} (hd : 8 ≤ d) (h : zwp (f_X4_readStop (I 2) (I 1 4) (I 1 5) (I 1 2) (I 1 6) (I 1 3)) (fun w => match w with | (r, o0, o1, o2, o3) => Q (.inl (some (.int r))) (zS p q I [(1, some 3, fun _ => o3), (1, some 4, fun _ => o0), (1, some 5, fun _ => o1), (1, some 6, fun _ => o2)] J []))) : pm_call M cost zext d 32 [.ref 1] (pm_st 108 (shp p q) I J) Q := by
  obtain ⟨d, rfl⟩ := zd1 hd rfl
  have hc := pm_call_m (M := M) (cost := cost) zext_m d
  refine z_in (L := [(1, some 3, fun _ => (I 1 3)), (1, some 4, fun _ => (I 1 4)), (1, some 5, fun _ => (I 1 5)), (1, some 6, fun _ => (I 1 6))]) (K := []) (ls := [some (.ref 1)]) zmt_32 zco_32 rfl rfl (zid_s (zid_s (zid_s (zid_s zid_n)))) zid_n ?_
  delta f_X4_readStop at h
  refine g_aload_n (pc' := 1)  hc rfl rfl rfl rfl ?_
  refine g_bipush (pc' := 3) (v := (59 : Int32)) hc rfl zkb_59 rfl ?_
  refine z_virt (as := [.int (59 : Int32)]) (a := 1) (r := []) hc rfl rfl rfl rfl sh_1 rfl zco_88 rfl rfl rfl ?_
  refine ok_X9_isSign_1 (zdp hd rfl) (zwp_mono (zwp_bind h) ?_)
  rintro r1 h
  refine z_po (pc' := 6) (st' := [.int r1]) (v := (some (.int r1))) (L' := [(1, some 3, fun _ => (I 1 3)), (1, some 4, fun _ => (I 1 4)), (1, some 5, fun _ => (I 1 5)), (1, some 6, fun _ => (I 1 6))]) (K' := []) zco_88 rfl rfl rfl rfl rfl rfl rfl rfl ?_
  refine g_if_ne (pc' := 9) hc rfl rfl (fun hx => ?_) (fun hx => ?_)
  · replace h := zwp_f h hx
    refine g_aload_n (pc' := 12)  hc rfl rfl rfl rfl ?_
    refine z_virt (as := []) (a := 1) (r := []) hc rfl rfl rfl rfl sh_1 rfl zco_83 rfl rfl rfl ?_
    refine ok_X9_advance_1 (zdp hd rfl) (zwp_mono (zwp_bind h) ?_)
    rintro ⟨o2, o3, o4, o5⟩ h
    refine z_po (pc' := 15) (st' := []) (v := none) (L' := [(1, some 3, fun _ => o5), (1, some 4, fun _ => o2), (1, some 5, fun _ => o3), (1, some 6, fun _ => o4)]) (K' := []) zco_83 rfl rfl rfl rfl rfl rfl rfl rfl ?_
    refine g_iconst (pc' := 16) (v := (0 : Int32)) hc rfl zki_0 rfl ?_
    replace h := zws h
    exact g_ireturn hc rfl rfl rfl (fun _ => ⟨rfl, rfl⟩) h
  · replace h := zwp_t h hx
    refine g_iconst (pc' := 10) (v := (1 : Int32)) hc rfl zki_1 rfl ?_
    replace h := zws h
    exact g_ireturn hc rfl rfl rfl (fun _ => ⟨rfl, rfl⟩) h
set_option maxRecDepth 4000 in
theorem ok_X4_readTable_3_1_19 {p q : Nat} {I : pI} {J : pJ} {Q : pQ} {d : Nat} (hd : 9 ≤ d) (h : zwp (f_X4_readTable (I 19 1) (I 19 0) (I 2) (I 1 4) (I 1 5) (I 1 2) (I 1 6) (I 1 3)) (fun w => match w with | (r, o0, o1, o2, o3, o4, o5) => Q (.inl (some (.int r))) (zS p q I [(1, some 3, fun _ => o5), (1, some 4, fun _ => o2), (1, some 5, fun _ => o3), (1, some 6, fun _ => o4), (19, some 0, fun _ => o1), (19, some 1, fun _ => o0)] J []))) : pm_call M cost zext d 31 [.ref 3, .ref 1, .ref 19] (pm_st 108 (shp p q) I J) Q := by
  obtain ⟨d, rfl⟩ := zd1 hd rfl
  have hc := pm_call_m (M := M) (cost := cost) zext_m d
  refine z_in (L := [(1, some 3, fun _ => (I 1 3)), (1, some 4, fun _ => (I 1 4)), (1, some 5, fun _ => (I 1 5)), (1, some 6, fun _ => (I 1 6)), (19, some 0, fun _ => (I 19 0)), (19, some 1, fun _ => (I 19 1))]) (K := []) (ls := [some (.ref 3), some (.ref 1), some (.ref 19), none]) zmt_31 zco_31 rfl rfl (zid_s (zid_s (zid_s (zid_s (zid_s (zid_s zid_n)))))) zid_n ?_
  delta f_X4_readTable at h
  refine g_aload_n (pc' := 1)  hc rfl rfl rfl rfl ?_
  refine z_virt (as := []) (a := 1) (r := []) hc rfl rfl rfl rfl sh_1 rfl zco_83 rfl rfl rfl ?_
  refine ok_X9_advance_1 (zdp hd rfl) (zwp_mono (zwp_bind h) ?_)
  rintro ⟨o1, o2, o3, o4⟩ h
  refine z_po (pc' := 4) (st' := []) (v := none) (L' := [(1, some 3, fun _ => o4), (1, some 4, fun _ => o1), (1, some 5, fun _ => o2), (1, some 6, fun _ => o3), (19, some 0, fun _ => (I 19 0)), (19, some 1, fun _ => (I 19 1))]) (K' := []) zco_83 rfl rfl rfl rfl rfl rfl rfl rfl ?_
  refine g_aload_n (pc' := 5)  hc rfl rfl rfl rfl ?_
  refine g_iconst (pc' := 6) (v := (2 : Int32)) hc rfl zki_2 rfl ?_
  refine g_bipush (pc' := 8) (v := (6 : Int32)) hc rfl zkb_6 rfl ?_
  refine z_virt (as := [.int (2 : Int32), .int (6 : Int32)]) (a := 1) (r := []) hc rfl rfl rfl rfl sh_1 rfl zco_87 rfl rfl rfl ?_
  refine ok_X9_numberFault_1 (zdp hd rfl) (zwp_mono (zwp_bind h) ?_)
  rintro r5 h
  refine z_po (pc' := 11) (st' := [.int r5]) (v := (some (.int r5))) (L' := [(1, some 3, fun _ => o4), (1, some 4, fun _ => o1), (1, some 5, fun _ => o2), (1, some 6, fun _ => o3), (19, some 0, fun _ => (I 19 0)), (19, some 1, fun _ => (I 19 1))]) (K' := []) zco_87 rfl rfl rfl rfl rfl rfl rfl rfl ?_
  refine g_istore_n (pc' := 12) (ls1 := [some (.ref 3), some (.ref 1), some (.ref 19), some (.int r5)]) hc rfl (zlt rfl) rfl rfl ?_
  refine g_iload_n (pc' := 13)  hc rfl rfl rfl ?_
  refine g_if_eq (pc' := 16) hc rfl rfl (fun hx => ?_) (fun hx => ?_)
  · replace h := zwp_t h hx
    refine g_aload_n (pc' := 19)  hc rfl rfl rfl rfl ?_
    refine g_aload_n (pc' := 20)  hc rfl rfl rfl rfl ?_
    refine z_getI (pc' := 23) (v := o3) hc rfl rfl rfl sh_1 rfl rfl rfl ?_
    refine z_putI (pc' := 26) (L' := [(1, some 3, fun _ => o4), (1, some 4, fun _ => o1), (1, some 5, fun _ => o2), (1, some 6, fun _ => o3), (19, some 0, fun _ => o3), (19, some 1, fun _ => (I 19 1))]) hc rfl rfl rfl sh_19 rfl zft_3_0 rfl (fun h => Bool.noConfusion h) rfl rfl rfl ?_
    refine g_aload_n (pc' := 27)  hc rfl rfl rfl rfl ?_
    refine z_virt (as := []) (a := 1) (r := []) hc rfl rfl rfl rfl sh_1 rfl zco_83 rfl rfl rfl ?_
    refine ok_X9_advance_1 (zdp hd rfl) (zwp_mono (zwp_bind h) ?_)
    rintro ⟨o6, o7, o8, o9⟩ h
    refine z_po (pc' := 30) (st' := []) (v := none) (L' := [(1, some 3, fun _ => o9), (1, some 4, fun _ => o6), (1, some 5, fun _ => o7), (1, some 6, fun _ => o8), (19, some 0, fun _ => o3), (19, some 1, fun _ => (I 19 1))]) (K' := []) zco_83 rfl rfl rfl rfl rfl rfl rfl rfl ?_
    refine g_aload_n (pc' := 31)  hc rfl rfl rfl rfl ?_
    refine g_iconst (pc' := 32) (v := (2 : Int32)) hc rfl zki_2 rfl ?_
    refine g_bipush (pc' := 34) (v := (6 : Int32)) hc rfl zkb_6 rfl ?_
    refine z_virt (as := [.int (2 : Int32), .int (6 : Int32)]) (a := 1) (r := []) hc rfl rfl rfl rfl sh_1 rfl zco_87 rfl rfl rfl ?_
    refine ok_X9_numberFault_1 (zdp hd rfl) (zwp_mono (zwp_bind h) ?_)
    rintro r10 h
    refine z_po (pc' := 37) (st' := [.int r10]) (v := (some (.int r10))) (L' := [(1, some 3, fun _ => o9), (1, some 4, fun _ => o6), (1, some 5, fun _ => o7), (1, some 6, fun _ => o8), (19, some 0, fun _ => o3), (19, some 1, fun _ => (I 19 1))]) (K' := []) zco_87 rfl rfl rfl rfl rfl rfl rfl rfl ?_
    refine g_istore_n (pc' := 38) (ls1 := [some (.ref 3), some (.ref 1), some (.ref 19), some (.int r10)]) hc rfl (zlt rfl) rfl rfl ?_
    refine g_iload_n (pc' := 39)  hc rfl rfl rfl ?_
    refine g_if_eq (pc' := 42) hc rfl rfl (fun hx => ?_) (fun hx => ?_)
    · replace h := zwp_t h hx
      refine g_aload_n (pc' := 45)  hc rfl rfl rfl rfl ?_
      refine g_aload_n (pc' := 46)  hc rfl rfl rfl rfl ?_
      refine z_getI (pc' := 49) (v := o8) hc rfl rfl rfl sh_1 rfl rfl rfl ?_
      refine z_putI (pc' := 52) (L' := [(1, some 3, fun _ => o9), (1, some 4, fun _ => o6), (1, some 5, fun _ => o7), (1, some 6, fun _ => o8), (19, some 0, fun _ => o3), (19, some 1, fun _ => o8)]) hc rfl rfl rfl sh_19 rfl zft_3_1 rfl (fun h => Bool.noConfusion h) rfl rfl rfl ?_
      refine g_aload_n (pc' := 53)  hc rfl rfl rfl rfl ?_
      refine z_virt (as := []) (a := 1) (r := []) hc rfl rfl rfl rfl sh_1 rfl zco_83 rfl rfl rfl ?_
      refine ok_X9_advance_1 (zdp hd rfl) (zwp_mono (zwp_bind h) ?_)
      rintro ⟨o11, o12, o13, o14⟩ h
      refine z_po (pc' := 56) (st' := []) (v := none) (L' := [(1, some 3, fun _ => o14), (1, some 4, fun _ => o11), (1, some 5, fun _ => o12), (1, some 6, fun _ => o13), (19, some 0, fun _ => o3), (19, some 1, fun _ => o8)]) (K' := []) zco_83 rfl rfl rfl rfl rfl rfl rfl rfl ?_
      refine g_aload_n (pc' := 57)  hc rfl rfl rfl rfl ?_
      refine z_stat (as := [.ref 1]) (r := []) hc rfl rfl rfl rfl zco_32 rfl rfl rfl ?_
      refine ok_X4_readStop_1 (zdp hd rfl) (zwp_mono (zwp_bind h) ?_)
      rintro ⟨r19, o15, o16, o17, o18⟩ h
      refine z_po (pc' := 60) (st' := [.int r19]) (v := (some (.int r19))) (L' := [(1, some 3, fun _ => o18), (1, some 4, fun _ => o15), (1, some 5, fun _ => o16), (1, some 6, fun _ => o17), (19, some 0, fun _ => o3), (19, some 1, fun _ => o8)]) (K' := []) zco_32 rfl rfl rfl rfl rfl rfl rfl rfl ?_
      replace h := zws h
      exact g_ireturn hc rfl rfl rfl (fun _ => ⟨rfl, rfl⟩) h
    · replace h := zwp_f h hx
      refine g_iload_n (pc' := 43)  hc rfl rfl rfl ?_
      replace h := zws h
      exact g_ireturn hc rfl rfl rfl (fun _ => ⟨rfl, rfl⟩) h
  · replace h := zwp_f h hx
    refine g_iload_n (pc' := 17)  hc rfl rfl rfl ?_
    replace h := zws h
    exact g_ireturn hc rfl rfl rfl (fun _ => ⟨rfl, rfl⟩) h
set_option maxRecDepth 4000 in
theorem ok_X3_cells_19 {p q : Nat} {I : pI} {J : pJ} {Q : pQ} {d : Nat} (hd : 1 ≤ d) (h : zwp (f_X3_cells (I 19 1) (I 19 0)) (fun r => Q (.inl (some (.int r))) (zS p q I [] J []))) : pm_call M cost zext d 21 [.ref 19] (pm_st 108 (shp p q) I J) Q := by
  obtain ⟨d, rfl⟩ := zd1 hd rfl
  have hc := pm_call_m (M := M) (cost := cost) zext_m d
  refine z_in (L := []) (K := []) (ls := [some (.ref 19)]) zmt_21 zco_21 rfl rfl zid_n zid_n ?_
  delta f_X3_cells at h
  refine g_aload_n (pc' := 1)  hc rfl rfl rfl rfl ?_
  refine z_getI (pc' := 4) (v := (I 19 0)) hc rfl rfl rfl sh_19 rfl rfl rfl ?_
  refine g_aload_n (pc' := 5)  hc rfl rfl rfl rfl ?_
  refine z_getI (pc' := 8) (v := (I 19 1)) hc rfl rfl rfl sh_19 rfl rfl rfl ?_
  refine g_imul (pc' := 9)  hc rfl rfl ?_
  replace h := zws h
  exact g_ireturn hc rfl rfl rfl (fun _ => ⟨rfl, rfl⟩) h
set_option maxRecDepth 4000 in
theorem ok_X3_isWall_19 {p q : Nat} {I : pI} {J : pJ} {a1 : Int32} {Q : pQ} {d : Nat} (hd : 1 ≤ d) (h : zwp (f_X3_isWall a1 (J 19 2)) (fun r => Q (.inl (some (.int r))) (zS p q I [] J []))) : pm_call M cost zext d 26 [.ref 19, .int a1] (pm_st 108 (shp p q) I J) Q := by
  obtain ⟨d, rfl⟩ := zd1 hd rfl
  have hc := pm_call_m (M := M) (cost := cost) zext_m d
  refine z_in (L := []) (K := []) (ls := [some (.ref 19), some (.int a1)]) zmt_26 zco_26 rfl rfl zid_n zid_n ?_
  delta f_X3_isWall at h
  refine g_aload_n (pc' := 1)  hc rfl rfl rfl rfl ?_
  refine z_getJ (pc' := 4) (v := (J 19 2)) hc rfl rfl rfl sh_19 rfl rfl rfl ?_
  refine g_iload_n (pc' := 5)  hc rfl rfl rfl ?_
  refine g_lushr (pc' := 6)  hc rfl rfl ?_
  refine g_lconst (pc' := 7) (v := (1 : Int64)) hc rfl zkl_1 rfl ?_
  refine g_land (pc' := 8)  hc rfl rfl ?_
  refine g_lconst (pc' := 9) (v := (0 : Int64)) hc rfl zkl_0 rfl ?_
  refine g_lcmp (pc' := 10)  hc rfl rfl ?_
  refine g_if_eq (pc' := 13) hc rfl rfl (fun hx => ?_) (fun hx => ?_)
  · replace h := zwp_t h hx
    refine g_iconst (pc' := 18) (v := (0 : Int32)) hc rfl zki_0 rfl ?_
    replace h := zws h
    exact g_ireturn hc rfl rfl rfl (fun _ => ⟨rfl, rfl⟩) h
  · replace h := zwp_f h hx
    refine g_iconst (pc' := 14) (v := (1 : Int32)) hc rfl zki_1 rfl ?_
    refine g_goto hc rfl ?_
    replace h := zws h
    exact g_ireturn hc rfl rfl rfl (fun _ => ⟨rfl, rfl⟩) h
set_option maxRecDepth 4000 in
theorem ok_X4_cellFault_1_19 {p q : Nat} {I : pI} {J : pJ} {Q : pQ} {d : Nat} (hd : 2 ≤ d) (h : zwp (f_X4_cellFault (I 19 1) (J 19 2) (I 19 0) (I 1 4) (I 1 5) (I 1 6) (I 1 3)) (fun r => Q (.inl (some (.int r))) (zS p q I [] J []))) : pm_call M cost zext d 34 [.ref 1, .ref 19] (pm_st 108 (shp p q) I J) Q := by
  obtain ⟨d, rfl⟩ := zd1 hd rfl
  have hc := pm_call_m (M := M) (cost := cost) zext_m d
  refine z_in (L := []) (K := []) (ls := [some (.ref 1), some (.ref 19), none]) zmt_34 zco_34 rfl rfl zid_n zid_n ?_
  delta f_X4_cellFault at h
  refine g_aload_n (pc' := 1)  hc rfl rfl rfl rfl ?_
  refine g_iconst (pc' := 2) (v := (0 : Int32)) hc rfl zki_0 rfl ?_
  refine g_sipush (pc' := 5) (v := (9999 : Int32)) hc rfl zks_9999 rfl ?_
  refine z_virt (as := [.int (0 : Int32), .int (9999 : Int32)]) (a := 1) (r := []) hc rfl rfl rfl rfl sh_1 rfl zco_87 rfl rfl rfl ?_
  refine ok_X9_numberFault_1 (zdp hd rfl) (zwp_mono (zwp_bind h) ?_)
  rintro r1 h
  refine z_po (pc' := 8) (st' := [.int r1]) (v := (some (.int r1))) (L' := []) (K' := []) zco_87 rfl rfl rfl rfl rfl rfl rfl rfl ?_
  refine g_istore_n (pc' := 9) (ls1 := [some (.ref 1), some (.ref 19), some (.int r1)]) hc rfl (zlt rfl) rfl rfl ?_
  refine g_iload_n (pc' := 10)  hc rfl rfl rfl ?_
  refine g_if_eq (pc' := 13) hc rfl rfl (fun hx => ?_) (fun hx => ?_)
  · replace h := zwp_t h hx
    refine g_aload_n (pc' := 16)  hc rfl rfl rfl rfl ?_
    refine z_getI (pc' := 19) (v := (I 1 6)) hc rfl rfl rfl sh_1 rfl rfl rfl ?_
    refine g_aload_n (pc' := 20)  hc rfl rfl rfl rfl ?_
    refine z_virt (as := []) (a := 19) (r := [.int (I 1 6)]) hc rfl rfl rfl rfl sh_19 rfl zco_21 rfl rfl rfl ?_
    refine ok_X3_cells_19 (zdp hd rfl) (zwp_mono (zwp_bind h) ?_)
    rintro r2 h
    refine z_po (pc' := 23) (st' := [.int r2, .int (I 1 6)]) (v := (some (.int r2))) (L' := []) (K' := []) zco_21 rfl rfl rfl rfl rfl rfl rfl rfl ?_
    refine g_icmp_lt (pc' := 26) hc rfl rfl (fun hx => ?_) (fun hx => ?_)
    · replace h := zwp_t h hx
      refine g_aload_n (pc' := 29)  hc rfl rfl rfl rfl ?_
      refine g_aload_n (pc' := 30)  hc rfl rfl rfl rfl ?_
      refine z_getI (pc' := 33) (v := (I 1 6)) hc rfl rfl rfl sh_1 rfl rfl rfl ?_
      refine z_virt (as := [.int (I 1 6)]) (a := 19) (r := []) hc rfl rfl rfl rfl sh_19 rfl zco_26 rfl rfl rfl ?_
      refine ok_X3_isWall_19 (zdp hd rfl) (zwp_mono (zwp_bind h) ?_)
      rintro r3 h
      refine z_po (pc' := 36) (st' := [.int r3]) (v := (some (.int r3))) (L' := []) (K' := []) zco_26 rfl rfl rfl rfl rfl rfl rfl rfl ?_
      refine g_if_eq (pc' := 39) hc rfl rfl (fun hx => ?_) (fun hx => ?_)
      · replace h := zwp_t h hx
        refine g_iconst (pc' := 44) (v := (0 : Int32)) hc rfl zki_0 rfl ?_
        replace h := zws h
        exact g_ireturn hc rfl rfl rfl (fun _ => ⟨rfl, rfl⟩) h
      · replace h := zwp_f h hx
        refine g_iconst (pc' := 40) (v := (4 : Int32)) hc rfl zki_4 rfl ?_
        refine g_goto hc rfl ?_
        replace h := zws h
        exact g_ireturn hc rfl rfl rfl (fun _ => ⟨rfl, rfl⟩) h
    · replace h := zwp_f h hx
      refine g_iconst (pc' := 27) (v := (3 : Int32)) hc rfl zki_3 rfl ?_
      replace h := zws h
      exact g_ireturn hc rfl rfl rfl (fun _ => ⟨rfl, rfl⟩) h
  · replace h := zwp_f h hx
    refine g_iload_n (pc' := 14)  hc rfl rfl rfl ?_
    replace h := zws h
    exact g_ireturn hc rfl rfl rfl (fun _ => ⟨rfl, rfl⟩) h
set_option maxRecDepth 4000 in
theorem ok_X3_isStart_19 {p q : Nat} {I : pI} {J : pJ} {a1 : Int32} {Q : pQ} {d : Nat} (hd : 1 ≤ d) (h : zwp (f_X3_isStart a1 (I 19 3) (I 20)) (fun r => Q (.inl (some (.int r))) (zS p q I [] J []))) : pm_call M cost zext d 27 [.ref 19, .int a1] (pm_st 108 (shp p q) I J) Q := by
  obtain ⟨d, rfl⟩ := zd1 hd rfl
  have hc := pm_call_m (M := M) (cost := cost) zext_m d
  refine z_in (L := []) (K := []) (ls := [some (.ref 19), some (.int a1), none]) zmt_27 zco_27 rfl rfl zid_n zid_n ?_
  delta f_X3_isStart at h
  refine g_iconst (pc' := 1) (v := (0 : Int32)) hc rfl zki_0 rfl ?_
  refine g_istore_n (pc' := 2) (ls1 := [some (.ref 19), some (.int a1), some (.int (0 : Int32))]) hc rfl (zlt rfl) rfl rfl ?_
  refine zjs (G := (fun (_ : Unit) => ∀ z2 : Option Value, znl z2 = true → pm_ev C_X3_isStart (d + 1) (pm_call M cost zext d) cost (false, false) 108 0 0 Q 28 [some (.ref 19), some (.int a1), z2] [] 0 0 (zS p q I [] J []))) h ?_ (fun h => ?_)
  · rintro _ h z2 hz2
    refine g_iconst (pc' := 29) (v := (0 : Int32)) hc rfl zki_0 rfl ?_
    replace h := zws h
    exact g_ireturn hc rfl rfl rfl (fun _ => ⟨rfl, rfl⟩) h
  refine zitr_ev (G := (fun (x1 : Int32) => pm_ev C_X3_isStart (d + 1) (pm_call M cost zext d) cost (false, false) 108 0 0 Q 2 [some (.ref 19), some (.int a1), some (.int x1)] [] 0 0 (zS p q I [] J []))) ?_ zFU (0 : Int32) h
  rintro x1 h
  refine g_iload_n (pc' := 3)  hc rfl rfl rfl ?_
  refine g_aload_n (pc' := 4)  hc rfl rfl rfl rfl ?_
  refine z_getI (pc' := 7) (v := (I 19 3)) hc rfl rfl rfl sh_19 rfl rfl rfl ?_
  refine g_icmp_ge (pc' := 10) hc rfl rfl (fun hx => ?_) (fun hx => ?_)
  · replace h := zwp_t h hx
    replace h := zwp_r h
    exact h (some (.int x1)) rfl
  · replace h := zwp_f h hx
    refine g_aload_n (pc' := 11)  hc rfl rfl rfl rfl ?_
    refine z_getR (pc' := 14)  hc rfl rfl rfl sh_19 rfl rfl ?_
    refine g_iload_n (pc' := 15)  hc rfl rfl rfl ?_
    have hb := (zwp_bnd h).1
    replace h := (zwp_bnd h).2
    refine z_iaload (pc' := 16) (v := (((I 20)) x1.toNatClampNeg)) hc rfl rfl sh_20 hb rfl rfl ?_
    refine g_iload_n (pc' := 17)  hc rfl rfl rfl ?_
    refine g_icmp_ne (pc' := 20) hc rfl rfl (fun hx => ?_) (fun hx => ?_)
    · replace h := zwp_f h hx
      refine g_iinc (pc' := 25) (ls1 := [some (.ref 19), some (.int a1), some (.int (x1 + (1 : Int32)))]) hc rfl rfl zki_1 (zlt rfl) rfl rfl ?_
      refine g_goto hc rfl ?_
      replace h := zwp_l h
      exact h
    · replace h := zwp_t h hx
      refine g_iconst (pc' := 21) (v := (1 : Int32)) hc rfl zki_1 rfl ?_
      replace h := zws h
      exact g_ireturn hc rfl rfl rfl (fun _ => ⟨rfl, rfl⟩) h
set_option maxRecDepth 4000 in
theorem ok_X3_seatsAt_19 {p q : Nat} {I : pI} {J : pJ} {a1 : Int32} {Q : pQ} {d : Nat} (hd : 1 ≤ d) (h : zwp (f_X3_seatsAt a1 (I 23) (I 19 7)) (fun r => Q (.inl (some (.int r))) (zS p q I [] J []))) : pm_call M cost zext d 25 [.ref 19, .int a1] (pm_st 108 (shp p q) I J) Q := by
  obtain ⟨d, rfl⟩ := zd1 hd rfl
  have hc := pm_call_m (M := M) (cost := cost) zext_m d
  refine z_in (L := []) (K := []) (ls := [some (.ref 19), some (.int a1), none, none]) zmt_25 zco_25 rfl rfl zid_n zid_n ?_
  delta f_X3_seatsAt at h
  refine g_iconst (pc' := 1) (v := (0 : Int32)) hc rfl zki_0 rfl ?_
  refine g_istore_n (pc' := 2) (ls1 := [some (.ref 19), some (.int a1), some (.int (0 : Int32)), none]) hc rfl (zlt rfl) rfl rfl ?_
  refine g_iconst (pc' := 3) (v := (0 : Int32)) hc rfl zki_0 rfl ?_
  refine g_istore_n (pc' := 4) (ls1 := [some (.ref 19), some (.int a1), some (.int (0 : Int32)), some (.int (0 : Int32))]) hc rfl (zlt rfl) rfl rfl ?_
  refine zjn (G := (fun (y3 : Int32) => ∀ z4 : Option Value, znl z4 = true → pm_ev C_X3_seatsAt (d + 1) (pm_call M cost zext d) cost (false, false) 108 0 0 Q 34 [some (.ref 19), some (.int a1), some (.int y3), z4] [] 0 0 (zS p q I [] J []))) (zwp_bind h) ?_ (fun h => ?_)
  · rintro y3 h z4 hz4
    refine g_iload_n (pc' := 35)  hc rfl rfl rfl ?_
    replace h := zws h
    exact g_ireturn hc rfl rfl rfl (fun _ => ⟨rfl, rfl⟩) h
  refine zitr_ev (G := (fun (g : Int32 × Int32) => match g with | (x1, x2) => pm_ev C_X3_seatsAt (d + 1) (pm_call M cost zext d) cost (false, false) 108 0 0 Q 4 [some (.ref 19), some (.int a1), some (.int x1), some (.int x2)] [] 0 0 (zS p q I [] J []))) ?_ zFU ((0 : Int32), (0 : Int32)) h
  rintro ⟨x1, x2⟩ h
  refine g_iload_n (pc' := 5)  hc rfl rfl rfl ?_
  refine g_aload_n (pc' := 6)  hc rfl rfl rfl rfl ?_
  refine z_getI (pc' := 9) (v := (I 19 7)) hc rfl rfl rfl sh_19 rfl rfl rfl ?_
  refine g_icmp_ge (pc' := 12) hc rfl rfl (fun hx => ?_) (fun hx => ?_)
  · replace h := zwp_t h hx
    replace h := zwp_r h
    exact h (some (.int x2)) rfl
  · replace h := zwp_f h hx
    refine g_aload_n (pc' := 13)  hc rfl rfl rfl rfl ?_
    refine z_getR (pc' := 16)  hc rfl rfl rfl sh_19 rfl rfl ?_
    refine g_iload_n (pc' := 17)  hc rfl rfl rfl ?_
    have hb := (zwp_bnd h).1
    replace h := (zwp_bnd h).2
    refine z_iaload (pc' := 18) (v := (((I 23)) x2.toNatClampNeg)) hc rfl rfl sh_23 hb rfl rfl ?_
    refine g_iload_n (pc' := 19)  hc rfl rfl rfl ?_
    refine g_icmp_ne (pc' := 22) hc rfl rfl (fun hx => ?_) (fun hx => ?_)
    · replace h := zwp_f h hx
      refine g_iinc (pc' := 31) (ls1 := [some (.ref 19), some (.int a1), some (.int x1), some (.int (x2 + (1 : Int32)))]) hc rfl rfl zki_1 (zlt rfl) rfl rfl ?_
      refine g_goto hc rfl ?_
      replace h := zwp_l h
      exact h
    · replace h := zwp_t h hx
      refine g_iload_n (pc' := 23)  hc rfl rfl rfl ?_
      refine g_iconst (pc' := 24) (v := (1 : Int32)) hc rfl zki_1 rfl ?_
      refine g_iload_n (pc' := 25)  hc rfl rfl rfl ?_
      refine g_ishl (pc' := 26)  hc rfl rfl ?_
      refine g_ior (pc' := 27)  hc rfl rfl ?_
      refine g_istore_n (pc' := 28) (ls1 := [some (.ref 19), some (.int a1), some (.int (x1 ||| ((1 : Int32) <<< (x2 &&& 31)))), some (.int x2)]) hc rfl (zlt rfl) rfl rfl ?_
      refine g_iinc (pc' := 31) (ls1 := [some (.ref 19), some (.int a1), some (.int (x1 ||| ((1 : Int32) <<< (x2 &&& 31)))), some (.int (x2 + (1 : Int32)))]) hc rfl rfl zki_1 (zlt rfl) rfl rfl ?_
      refine g_goto hc rfl ?_
      replace h := zwp_l h
      exact h
set_option maxRecDepth 4000 in
theorem ok_X4_readWall_1_19 {p q : Nat} {I : pI} {J : pJ} {Q : pQ} {d : Nat} (hd : 8 ≤ d) (h : zwp (f_X4_readWall (I 19 3) (I 19 1) (I 23) (I 19 7) (I 20) (J 19 2) (I 19 0) (I 2) (I 1 4) (I 1 5) (I 1 2) (I 1 6) (I 1 3)) (fun w => match w with | (r, o0, o1, o2, o3, o4) => Q (.inl (some (.int r))) (zS p q I [(1, some 3, fun _ => o4), (1, some 4, fun _ => o1), (1, some 5, fun _ => o2), (1, some 6, fun _ => o3)] J [(19, some 2, fun _ => o0)]))) : pm_call M cost zext d 35 [.ref 1, .ref 19] (pm_st 108 (shp p q) I J) Q := by
  obtain ⟨d, rfl⟩ := zd1 hd rfl
  have hc := pm_call_m (M := M) (cost := cost) zext_m d
  refine z_in (L := [(1, some 3, fun _ => (I 1 3)), (1, some 4, fun _ => (I 1 4)), (1, some 5, fun _ => (I 1 5)), (1, some 6, fun _ => (I 1 6))]) (K := [(19, some 2, fun _ => (J 19 2))]) (ls := [some (.ref 1), some (.ref 19), none]) zmt_35 zco_35 rfl rfl (zid_s (zid_s (zid_s (zid_s zid_n)))) (zid_s zid_n) ?_
  delta f_X4_readWall at h
  refine g_aload_n (pc' := 1)  hc rfl rfl rfl rfl ?_
  refine z_virt (as := []) (a := 1) (r := []) hc rfl rfl rfl rfl sh_1 rfl zco_83 rfl rfl rfl ?_
  refine ok_X9_advance_1 (zdp hd rfl) (zwp_mono (zwp_bind h) ?_)
  rintro ⟨o1, o2, o3, o4⟩ h
  refine z_po (pc' := 4) (st' := []) (v := none) (L' := [(1, some 3, fun _ => o4), (1, some 4, fun _ => o1), (1, some 5, fun _ => o2), (1, some 6, fun _ => o3)]) (K' := [(19, some 2, fun _ => (J 19 2))]) zco_83 rfl rfl rfl rfl rfl rfl rfl rfl ?_
  refine g_aload_n (pc' := 5)  hc rfl rfl rfl rfl ?_
  refine g_aload_n (pc' := 6)  hc rfl rfl rfl rfl ?_
  refine z_stat (as := [.ref 1, .ref 19]) (r := []) hc rfl rfl rfl rfl zco_34 rfl rfl rfl ?_
  refine ok_X4_cellFault_1_19 (zdp hd rfl) (zwp_mono (zwp_bind h) ?_)
  rintro r5 h
  refine z_po (pc' := 9) (st' := [.int r5]) (v := (some (.int r5))) (L' := [(1, some 3, fun _ => o4), (1, some 4, fun _ => o1), (1, some 5, fun _ => o2), (1, some 6, fun _ => o3)]) (K' := [(19, some 2, fun _ => (J 19 2))]) zco_34 rfl rfl rfl rfl rfl rfl rfl rfl ?_
  refine g_istore_n (pc' := 10) (ls1 := [some (.ref 1), some (.ref 19), some (.int r5)]) hc rfl (zlt rfl) rfl rfl ?_
  refine g_iload_n (pc' := 11)  hc rfl rfl rfl ?_
  refine g_if_eq (pc' := 14) hc rfl rfl (fun hx => ?_) (fun hx => ?_)
  · replace h := zwp_t h hx
    refine g_aload_n (pc' := 17)  hc rfl rfl rfl rfl ?_
    refine g_aload_n (pc' := 18)  hc rfl rfl rfl rfl ?_
    refine z_getI (pc' := 21) (v := o3) hc rfl rfl rfl sh_1 rfl rfl rfl ?_
    refine z_virt (as := [.int o3]) (a := 19) (r := []) hc rfl rfl rfl rfl sh_19 rfl zco_27 rfl rfl rfl ?_
    refine ok_X3_isStart_19 (zdp hd rfl) (zwp_mono (zwp_bind h) ?_)
    rintro r6 h
    refine z_po (pc' := 24) (st' := [.int r6]) (v := (some (.int r6))) (L' := [(1, some 3, fun _ => o4), (1, some 4, fun _ => o1), (1, some 5, fun _ => o2), (1, some 6, fun _ => o3)]) (K' := [(19, some 2, fun _ => (J 19 2))]) zco_27 rfl rfl rfl rfl rfl rfl rfl rfl ?_
    refine g_if_ne (pc' := 27) hc rfl rfl (fun hx => ?_) (fun hx => ?_)
    · replace h := zwp_f h hx
      refine g_iconst (pc' := 39) (v := (4 : Int32)) hc rfl zki_4 rfl ?_
      replace h := zws h
      exact g_ireturn hc rfl rfl rfl (fun _ => ⟨rfl, rfl⟩) h
    · replace h := zwp_t h hx
      refine g_aload_n (pc' := 28)  hc rfl rfl rfl rfl ?_
      refine g_aload_n (pc' := 29)  hc rfl rfl rfl rfl ?_
      refine z_getI (pc' := 32) (v := o3) hc rfl rfl rfl sh_1 rfl rfl rfl ?_
      refine z_virt (as := [.int o3]) (a := 19) (r := []) hc rfl rfl rfl rfl sh_19 rfl zco_25 rfl rfl rfl ?_
      refine ok_X3_seatsAt_19 (zdp hd rfl) (zwp_mono (zwp_bind h) ?_)
      rintro r7 h
      refine z_po (pc' := 35) (st' := [.int r7]) (v := (some (.int r7))) (L' := [(1, some 3, fun _ => o4), (1, some 4, fun _ => o1), (1, some 5, fun _ => o2), (1, some 6, fun _ => o3)]) (K' := [(19, some 2, fun _ => (J 19 2))]) zco_25 rfl rfl rfl rfl rfl rfl rfl rfl ?_
      refine g_if_eq (pc' := 38) hc rfl rfl (fun hx => ?_) (fun hx => ?_)
      · replace h := zwp_t h hx
        refine g_aload_n (pc' := 41)  hc rfl rfl rfl rfl ?_
        refine g_aload_n (pc' := 42)  hc rfl rfl rfl rfl ?_
        refine z_getJ (pc' := 45) (v := (J 19 2)) hc rfl rfl rfl sh_19 rfl rfl rfl ?_
        refine g_lconst (pc' := 46) (v := (1 : Int64)) hc rfl zkl_1 rfl ?_
        refine g_aload_n (pc' := 47)  hc rfl rfl rfl rfl ?_
        refine z_getI (pc' := 50) (v := o3) hc rfl rfl rfl sh_1 rfl rfl rfl ?_
        refine g_lshl (pc' := 51)  hc rfl rfl ?_
        refine g_lor (pc' := 52)  hc rfl rfl ?_
        refine z_putJ (pc' := 55) (K' := [(19, some 2, fun _ => (((J 19 2)) ||| ((1 : Int64) <<< (o3.toInt64 &&& 63))))]) hc rfl rfl rfl sh_19 rfl zft_3_2 (fun h => Bool.noConfusion h) rfl rfl rfl ?_
        refine g_aload_n (pc' := 56)  hc rfl rfl rfl rfl ?_
        refine z_virt (as := []) (a := 1) (r := []) hc rfl rfl rfl rfl sh_1 rfl zco_83 rfl rfl rfl ?_
        refine ok_X9_advance_1 (zdp hd rfl) (zwp_mono (zwp_bind h) ?_)
        rintro ⟨o8, o9, o10, o11⟩ h
        refine z_po (pc' := 59) (st' := []) (v := none) (L' := [(1, some 3, fun _ => o11), (1, some 4, fun _ => o8), (1, some 5, fun _ => o9), (1, some 6, fun _ => o10)]) (K' := [(19, some 2, fun _ => (((J 19 2)) ||| ((1 : Int64) <<< (o3.toInt64 &&& 63))))]) zco_83 rfl rfl rfl rfl rfl rfl rfl rfl ?_
        refine g_iconst (pc' := 60) (v := (0 : Int32)) hc rfl zki_0 rfl ?_
        replace h := zws h
        exact g_ireturn hc rfl rfl rfl (fun _ => ⟨rfl, rfl⟩) h
      · replace h := zwp_f h hx
        refine g_iconst (pc' := 39) (v := (4 : Int32)) hc rfl zki_4 rfl ?_
        replace h := zws h
        exact g_ireturn hc rfl rfl rfl (fun _ => ⟨rfl, rfl⟩) h
  · replace h := zwp_f h hx
    refine g_iload_n (pc' := 15)  hc rfl rfl rfl ?_
    replace h := zws h
    exact g_ireturn hc rfl rfl rfl (fun _ => ⟨rfl, rfl⟩) h
set_option maxRecDepth 4000 in
theorem ok_X4_readRow_3_1_22 {p q : Nat} {I : pI} {J : pJ} {a3 : Int32} {a4 : Int32} {Q : pQ} {d : Nat} (hd : 8 ≤ d) (h : zwp (f_X4_readRow a3 a4 64 (I 22) (I 3 1) (I 2) (I 1 4) (I 1 5) (I 1 2) (I 1 6) (I 1 3)) (fun w => match w with | (r, o0, o1, o2, o3, o4, o5) => Q (.inl (some (.int r))) (zS p q I [(1, some 3, fun _ => o5), (1, some 4, fun _ => o2), (1, some 5, fun _ => o3), (1, some 6, fun _ => o4), (3, some 1, fun _ => o1), (22, none, o0)] J []))) : pm_call M cost zext d 39 [.ref 3, .ref 1, .ref 22, .int a3, .int a4] (pm_st 108 (shp p q) I J) Q := by
  obtain ⟨d, rfl⟩ := zd1 hd rfl
  have hc := pm_call_m (M := M) (cost := cost) zext_m d
  refine z_in (L := [(1, some 3, fun _ => (I 1 3)), (1, some 4, fun _ => (I 1 4)), (1, some 5, fun _ => (I 1 5)), (1, some 6, fun _ => (I 1 6)), (3, some 1, fun _ => (I 3 1)), (22, none, (I 22))]) (K := []) (ls := [some (.ref 3), some (.ref 1), some (.ref 22), some (.int a3), some (.int a4), none]) zmt_39 zco_39 rfl rfl (zid_s (zid_s (zid_s (zid_s (zid_s (zid_a zid_n)))))) zid_n ?_
  delta f_X4_readRow at h
  refine g_aload_n (pc' := 1)  hc rfl rfl rfl rfl ?_
  refine g_iconst (pc' := 2) (v := (0 : Int32)) hc rfl zki_0 rfl ?_
  refine z_putI (pc' := 5) (L' := [(1, some 3, fun _ => (I 1 3)), (1, some 4, fun _ => (I 1 4)), (1, some 5, fun _ => (I 1 5)), (1, some 6, fun _ => (I 1 6)), (3, some 1, fun _ => (0 : Int32)), (22, none, (I 22))]) hc rfl rfl rfl sh_3 rfl zft_4_1 rfl (fun h => Bool.noConfusion h) rfl rfl rfl ?_
  refine g_iconst (pc' := 6) (v := (0 : Int32)) hc rfl zki_0 rfl ?_
  refine g_istore (pc' := 8) (ls1 := [some (.ref 3), some (.ref 1), some (.ref 22), some (.int a3), some (.int a4), some (.int (0 : Int32))]) hc rfl (zlt rfl) rfl rfl ?_
  refine zjs (G := (fun (g : (Nat → Int32) × Int32 × Int32 × Int32 × Int32 × Int32) => match g with | (y9, y10, y11, y12, y13, y14) => ∀ z8 : Option Value, znl z8 = true → pm_ev C_X4_readRow (d + 1) (pm_call M cost zext d) cost (false, false) 108 0 0 Q 81 [some (.ref 3), some (.ref 1), some (.ref 22), some (.int a3), some (.int a4), z8] [] 0 0 (zS p q I [(1, some 3, fun _ => y14), (1, some 4, fun _ => y11), (1, some 5, fun _ => y12), (1, some 6, fun _ => y13), (3, some 1, fun _ => y10), (22, none, y9)] J []))) h ?_ (fun h => ?_)
  · rintro ⟨y9, y10, y11, y12, y13, y14⟩ h z8 hz8
    refine g_aload_n (pc' := 82)  hc rfl rfl rfl rfl ?_
    refine z_getI (pc' := 85) (v := y10) hc rfl rfl rfl sh_3 rfl rfl rfl ?_
    refine g_if_le (pc' := 88) hc rfl rfl (fun hx => ?_) (fun hx => ?_)
    · replace h := zwp_t h hx
      refine g_iconst (pc' := 93) (v := (1 : Int32)) hc rfl zki_1 rfl ?_
      replace h := zws h
      exact g_ireturn hc rfl rfl rfl (fun _ => ⟨rfl, rfl⟩) h
    · replace h := zwp_f h hx
      refine g_iconst (pc' := 89) (v := (0 : Int32)) hc rfl zki_0 rfl ?_
      refine g_goto hc rfl ?_
      replace h := zws h
      exact g_ireturn hc rfl rfl rfl (fun _ => ⟨rfl, rfl⟩) h
  refine zitr_ev (G := (fun (g : Int32 × (Nat → Int32) × Int32 × Int32 × Int32 × Int32 × Int32) => match g with | (x1, x2, x3, x4, x5, x6, x7) => pm_ev C_X4_readRow (d + 1) (pm_call M cost zext d) cost (false, false) 108 0 0 Q 8 [some (.ref 3), some (.ref 1), some (.ref 22), some (.int a3), some (.int a4), some (.int x1)] [] 0 0 (zS p q I [(1, some 3, fun _ => x7), (1, some 4, fun _ => x4), (1, some 5, fun _ => x5), (1, some 6, fun _ => x6), (3, some 1, fun _ => x3), (22, none, x2)] J []))) ?_ zFU ((0 : Int32), (I 22), (0 : Int32), (I 1 4), (I 1 5), (I 1 6), (I 1 3)) h
  rintro ⟨x1, x2, x3, x4, x5, x6, x7⟩ h
  refine g_iload (pc' := 10)  hc rfl rfl rfl ?_
  refine g_bipush (pc' := 12) (v := (8 : Int32)) hc rfl zkb_8 rfl ?_
  refine g_icmp_gt (pc' := 15) hc rfl rfl (fun hx => ?_) (fun hx => ?_)
  · replace h := zwp_t h hx
    replace h := zwp_r h
    exact h (some (.int x1)) rfl
  · replace h := zwp_f h hx
    refine g_aload_n (pc' := 16)  hc rfl rfl rfl rfl ?_
    refine z_getI (pc' := 19) (v := x5) hc rfl rfl rfl sh_1 rfl rfl rfl ?_
    refine g_iconst (pc' := 20) (v := (2 : Int32)) hc rfl zki_2 rfl ?_
    refine g_icmp_ne (pc' := 23) hc rfl rfl (fun hx => ?_) (fun hx => ?_)
    · replace h := zwp_f h hx
      replace h := zwp_r h
      exact h (some (.int x1)) rfl
    · replace h := zwp_t h hx
      refine g_iload (pc' := 25)  hc rfl rfl rfl ?_
      refine g_bipush (pc' := 27) (v := (8 : Int32)) hc rfl zkb_8 rfl ?_
      refine g_icmp_eq (pc' := 30) hc rfl rfl (fun hx => ?_) (fun hx => ?_)
      · replace h := zwp_t h hx
        refine g_iconst (pc' := 41) (v := (2 : Int32)) hc rfl zki_2 rfl ?_
        replace h := zws h
        exact g_ireturn hc rfl rfl rfl (fun _ => ⟨rfl, rfl⟩) h
      · replace h := zwp_f h hx
        refine g_aload_n (pc' := 31)  hc rfl rfl rfl rfl ?_
        refine g_iconst (pc' := 32) (v := (0 : Int32)) hc rfl zki_0 rfl ?_
        refine g_iload (pc' := 34)  hc rfl rfl rfl ?_
        refine z_virt (as := [.int (0 : Int32), .int a4]) (a := 1) (r := []) hc rfl rfl rfl rfl sh_1 rfl zco_87 rfl rfl rfl ?_
        refine ok_X9_numberFault_1 (zdp hd rfl) (zwp_mono (zwp_bind h) ?_)
        rintro r15 h
        refine z_po (pc' := 37) (st' := [.int r15]) (v := (some (.int r15))) (L' := [(1, some 3, fun _ => x7), (1, some 4, fun _ => x4), (1, some 5, fun _ => x5), (1, some 6, fun _ => x6), (3, some 1, fun _ => x3), (22, none, x2)]) (K' := []) zco_87 rfl rfl rfl rfl rfl rfl rfl rfl ?_
        refine g_if_eq (pc' := 40) hc rfl rfl (fun hx => ?_) (fun hx => ?_)
        · replace h := zwp_t h hx
          refine g_iload_n (pc' := 43)  hc rfl rfl rfl ?_
          refine g_iload (pc' := 45)  hc rfl rfl rfl ?_
          refine g_iadd (pc' := 46)  hc rfl rfl ?_
          refine g_aload_n (pc' := 47)  hc rfl rfl rfl rfl ?_
          refine z_alen (pc' := 48) (v := (Int32.ofNat 64)) hc rfl rfl sh_22 ⟨by decide, by decide⟩ rfl rfl ?_
          refine zjn (G := (fun (j16 : (Nat → Int32)) => pm_ev C_X4_readRow (d + 1) (pm_call M cost zext d) cost (false, false) 108 0 0 Q 61 [some (.ref 3), some (.ref 1), some (.ref 22), some (.int a3), some (.int a4), some (.int x1)] [] 0 0 (zS p q I [(1, some 3, fun _ => x7), (1, some 4, fun _ => x4), (1, some 5, fun _ => x5), (1, some 6, fun _ => x6), (3, some 1, fun _ => x3), (22, none, j16)] J []))) (zwp_bind h) ?_ (fun h => ?_)
          · rintro j16 h
            refine g_aload_n (pc' := 62)  hc rfl rfl rfl rfl ?_
            refine g_dup (pc' := 63)  hc rfl rfl rfl ?_
            refine z_getI (pc' := 66) (v := x3) hc rfl rfl rfl sh_3 rfl rfl rfl ?_
            refine g_iconst (pc' := 67) (v := (1 : Int32)) hc rfl zki_1 rfl ?_
            refine g_iadd (pc' := 68)  hc rfl rfl ?_
            refine z_putI (pc' := 71) (L' := [(1, some 3, fun _ => x7), (1, some 4, fun _ => x4), (1, some 5, fun _ => x5), (1, some 6, fun _ => x6), (3, some 1, fun _ => (x3 + (1 : Int32))), (22, none, j16)]) hc rfl rfl rfl sh_3 rfl zft_4_1 rfl (fun h => Bool.noConfusion h) rfl rfl rfl ?_
            refine g_aload_n (pc' := 72)  hc rfl rfl rfl rfl ?_
            refine z_virt (as := []) (a := 1) (r := []) hc rfl rfl rfl rfl sh_1 rfl zco_83 rfl rfl rfl ?_
            refine ok_X9_advance_1 (zdp hd rfl) (zwp_mono (zwp_bind h) ?_)
            rintro ⟨o17, o18, o19, o20⟩ h
            refine z_po (pc' := 75) (st' := []) (v := none) (L' := [(1, some 3, fun _ => o20), (1, some 4, fun _ => o17), (1, some 5, fun _ => o18), (1, some 6, fun _ => o19), (3, some 1, fun _ => (x3 + (1 : Int32))), (22, none, j16)]) (K' := []) zco_83 rfl rfl rfl rfl rfl rfl rfl rfl ?_
            refine g_iinc (pc' := 78) (ls1 := [some (.ref 3), some (.ref 1), some (.ref 22), some (.int a3), some (.int a4), some (.int (x1 + (1 : Int32)))]) hc rfl rfl zki_1 (zlt rfl) rfl rfl ?_
            refine g_goto hc rfl ?_
            replace h := zwp_l h
            exact h
          refine g_icmp_ge (pc' := 51) hc rfl rfl (fun hx => ?_) (fun hx => ?_)
          · replace h := zwp_t h hx
            replace h := zws h
            exact h
          · replace h := zwp_f h hx
            refine g_aload_n (pc' := 52)  hc rfl rfl rfl rfl ?_
            refine g_iload_n (pc' := 53)  hc rfl rfl rfl ?_
            refine g_iload (pc' := 55)  hc rfl rfl rfl ?_
            refine g_iadd (pc' := 56)  hc rfl rfl ?_
            refine g_aload_n (pc' := 57)  hc rfl rfl rfl rfl ?_
            refine z_getI (pc' := 60) (v := x6) hc rfl rfl rfl sh_1 rfl rfl rfl ?_
            have hb := (zwp_bnd h).1
            replace h := (zwp_bnd h).2
            refine z_iastore (pc' := 61) (g := x2) (L' := [(1, some 3, fun _ => x7), (1, some 4, fun _ => x4), (1, some 5, fun _ => x5), (1, some 6, fun _ => x6), (3, some 1, fun _ => x3), (22, none, (upd x2 (a3 + x1).toNatClampNeg x6))]) hc rfl rfl sh_22 hb rfl rfl rfl rfl ?_
            replace h := zws h
            exact h
        · replace h := zwp_f h hx
          refine g_iconst (pc' := 41) (v := (2 : Int32)) hc rfl zki_2 rfl ?_
          replace h := zws h
          exact g_ireturn hc rfl rfl rfl (fun _ => ⟨rfl, rfl⟩) h
set_option maxRecDepth 4000 in
theorem ok_X4_readFigure_3_1_19 {p q : Nat} {I : pI} {J : pJ} {Q : pQ} {d : Nat} (hd : 9 ≤ d) (h : zwp (f_X4_readFigure (I 19 3) (I 19 1) (I 20) (I 21) (J 19 2) (I 22) (I 19 0) (I 3 1) (I 2) (I 1 4) (I 1 5) (I 1 2) (I 1 6) (I 1 3)) (fun w => match w with | (r, o0, o1, o2, o3, o4, o5, o6, o7, o8) => Q (.inl (some (.int r))) (zS p q I [(1, some 3, fun _ => o8), (1, some 4, fun _ => o5), (1, some 5, fun _ => o6), (1, some 6, fun _ => o7), (3, some 1, fun _ => o4), (19, some 3, fun _ => o0), (20, none, o1), (21, none, o2), (22, none, o3)] J []))) : pm_call M cost zext d 36 [.ref 3, .ref 1, .ref 19] (pm_st 108 (shp p q) I J) Q := by
  obtain ⟨d, rfl⟩ := zd1 hd rfl
  have hc := pm_call_m (M := M) (cost := cost) zext_m d
  refine z_in (L := [(1, some 3, fun _ => (I 1 3)), (1, some 4, fun _ => (I 1 4)), (1, some 5, fun _ => (I 1 5)), (1, some 6, fun _ => (I 1 6)), (3, some 1, fun _ => (I 3 1)), (19, some 3, fun _ => (I 19 3)), (20, none, (I 20)), (21, none, (I 21)), (22, none, (I 22))]) (K := []) (ls := [some (.ref 3), some (.ref 1), some (.ref 19), none, none]) zmt_36 zco_36 rfl rfl (zid_s (zid_s (zid_s (zid_s (zid_s (zid_s (zid_a (zid_a (zid_a zid_n))))))))) zid_n ?_
  delta f_X4_readFigure at h
  refine g_aload_n (pc' := 1)  hc rfl rfl rfl rfl ?_
  refine z_getI (pc' := 4) (v := (I 19 3)) hc rfl rfl rfl sh_19 rfl rfl rfl ?_
  refine g_bipush (pc' := 6) (v := (8 : Int32)) hc rfl zkb_8 rfl ?_
  refine g_icmp_lt (pc' := 9) hc rfl rfl (fun hx => ?_) (fun hx => ?_)
  · replace h := zwp_t h hx
    refine g_aload_n (pc' := 12)  hc rfl rfl rfl rfl ?_
    refine z_virt (as := []) (a := 1) (r := []) hc rfl rfl rfl rfl sh_1 rfl zco_83 rfl rfl rfl ?_
    refine ok_X9_advance_1 (zdp hd rfl) (zwp_mono (zwp_bind h) ?_)
    rintro ⟨o1, o2, o3, o4⟩ h
    refine z_po (pc' := 15) (st' := []) (v := none) (L' := [(1, some 3, fun _ => o4), (1, some 4, fun _ => o1), (1, some 5, fun _ => o2), (1, some 6, fun _ => o3), (3, some 1, fun _ => (I 3 1)), (19, some 3, fun _ => (I 19 3)), (20, none, (I 20)), (21, none, (I 21)), (22, none, (I 22))]) (K' := []) zco_83 rfl rfl rfl rfl rfl rfl rfl rfl ?_
    refine g_aload_n (pc' := 16)  hc rfl rfl rfl rfl ?_
    refine g_aload_n (pc' := 17)  hc rfl rfl rfl rfl ?_
    refine z_stat (as := [.ref 1, .ref 19]) (r := []) hc rfl rfl rfl rfl zco_34 rfl rfl rfl ?_
    refine ok_X4_cellFault_1_19 (zdp hd rfl) (zwp_mono (zwp_bind h) ?_)
    rintro r5 h
    refine z_po (pc' := 20) (st' := [.int r5]) (v := (some (.int r5))) (L' := [(1, some 3, fun _ => o4), (1, some 4, fun _ => o1), (1, some 5, fun _ => o2), (1, some 6, fun _ => o3), (3, some 1, fun _ => (I 3 1)), (19, some 3, fun _ => (I 19 3)), (20, none, (I 20)), (21, none, (I 21)), (22, none, (I 22))]) (K' := []) zco_34 rfl rfl rfl rfl rfl rfl rfl rfl ?_
    refine g_istore_n (pc' := 21) (ls1 := [some (.ref 3), some (.ref 1), some (.ref 19), some (.int r5), none]) hc rfl (zlt rfl) rfl rfl ?_
    refine g_iload_n (pc' := 22)  hc rfl rfl rfl ?_
    refine g_if_eq (pc' := 25) hc rfl rfl (fun hx => ?_) (fun hx => ?_)
    · replace h := zwp_t h hx
      refine g_aload_n (pc' := 28)  hc rfl rfl rfl rfl ?_
      refine z_getI (pc' := 31) (v := (I 19 3)) hc rfl rfl rfl sh_19 rfl rfl rfl ?_
      refine g_istore (pc' := 33) (ls1 := [some (.ref 3), some (.ref 1), some (.ref 19), some (.int r5), some (.int (I 19 3))]) hc rfl (zlt rfl) rfl rfl ?_
      refine g_aload_n (pc' := 34)  hc rfl rfl rfl rfl ?_
      refine z_getR (pc' := 37)  hc rfl rfl rfl sh_19 rfl rfl ?_
      refine g_iload (pc' := 39)  hc rfl rfl rfl ?_
      refine g_aload_n (pc' := 40)  hc rfl rfl rfl rfl ?_
      refine z_getI (pc' := 43) (v := o3) hc rfl rfl rfl sh_1 rfl rfl rfl ?_
      have hb := (zwp_bnd h).1
      replace h := (zwp_bnd h).2
      refine z_iastore (pc' := 44) (g := (I 20)) (L' := [(1, some 3, fun _ => o4), (1, some 4, fun _ => o1), (1, some 5, fun _ => o2), (1, some 6, fun _ => o3), (3, some 1, fun _ => (I 3 1)), (19, some 3, fun _ => (I 19 3)), (20, none, (upd ((I 20)) ((I 19 3)).toNatClampNeg o3)), (21, none, (I 21)), (22, none, (I 22))]) hc rfl rfl sh_20 hb rfl rfl rfl rfl ?_
      refine g_aload_n (pc' := 45)  hc rfl rfl rfl rfl ?_
      refine z_virt (as := []) (a := 1) (r := []) hc rfl rfl rfl rfl sh_1 rfl zco_83 rfl rfl rfl ?_
      refine ok_X9_advance_1 (zdp hd rfl) (zwp_mono (zwp_bind h) ?_)
      rintro ⟨o6, o7, o8, o9⟩ h
      refine z_po (pc' := 48) (st' := []) (v := none) (L' := [(1, some 3, fun _ => o9), (1, some 4, fun _ => o6), (1, some 5, fun _ => o7), (1, some 6, fun _ => o8), (3, some 1, fun _ => (I 3 1)), (19, some 3, fun _ => (I 19 3)), (20, none, (upd ((I 20)) ((I 19 3)).toNatClampNeg o3)), (21, none, (I 21)), (22, none, (I 22))]) (K' := []) zco_83 rfl rfl rfl rfl rfl rfl rfl rfl ?_
      refine g_aload_n (pc' := 49)  hc rfl rfl rfl rfl ?_
      refine g_aload_n (pc' := 50)  hc rfl rfl rfl rfl ?_
      refine g_aload_n (pc' := 51)  hc rfl rfl rfl rfl ?_
      refine z_getR (pc' := 54)  hc rfl rfl rfl sh_19 rfl rfl ?_
      refine g_iload (pc' := 56)  hc rfl rfl rfl ?_
      refine g_bipush (pc' := 58) (v := (8 : Int32)) hc rfl zkb_8 rfl ?_
      refine g_imul (pc' := 59)  hc rfl rfl ?_
      refine g_iconst (pc' := 60) (v := (4 : Int32)) hc rfl zki_4 rfl ?_
      refine z_virt (as := [.ref 1, .ref 22, .int (((I 19 3)) * (8 : Int32)), .int (4 : Int32)]) (a := 3) (r := []) hc rfl rfl rfl rfl sh_3 rfl zco_39 rfl rfl rfl ?_
      refine ok_X4_readRow_3_1_22 (zdp hd rfl) (zwp_mono (zwp_bind h) ?_)
      rintro ⟨r16, o10, o11, o12, o13, o14, o15⟩ h
      refine z_po (pc' := 63) (st' := [.int r16]) (v := (some (.int r16))) (L' := [(1, some 3, fun _ => o15), (1, some 4, fun _ => o12), (1, some 5, fun _ => o13), (1, some 6, fun _ => o14), (3, some 1, fun _ => o11), (19, some 3, fun _ => (I 19 3)), (20, none, (upd ((I 20)) ((I 19 3)).toNatClampNeg o3)), (21, none, (I 21)), (22, none, o10)]) (K' := []) zco_39 rfl rfl rfl rfl rfl rfl rfl rfl ?_
      refine g_istore_n (pc' := 64) (ls1 := [some (.ref 3), some (.ref 1), some (.ref 19), some (.int r16), some (.int (I 19 3))]) hc rfl (zlt rfl) rfl rfl ?_
      refine g_aload_n (pc' := 65)  hc rfl rfl rfl rfl ?_
      refine z_getR (pc' := 68)  hc rfl rfl rfl sh_19 rfl rfl ?_
      refine g_iload (pc' := 70)  hc rfl rfl rfl ?_
      refine g_aload_n (pc' := 71)  hc rfl rfl rfl rfl ?_
      refine z_getI (pc' := 74) (v := o11) hc rfl rfl rfl sh_3 rfl rfl rfl ?_
      have hb := (zwp_bnd h).1
      replace h := (zwp_bnd h).2
      refine z_iastore (pc' := 75) (g := (I 21)) (L' := [(1, some 3, fun _ => o15), (1, some 4, fun _ => o12), (1, some 5, fun _ => o13), (1, some 6, fun _ => o14), (3, some 1, fun _ => o11), (19, some 3, fun _ => (I 19 3)), (20, none, (upd ((I 20)) ((I 19 3)).toNatClampNeg o3)), (21, none, (upd ((I 21)) ((I 19 3)).toNatClampNeg o11)), (22, none, o10)]) hc rfl rfl sh_21 hb rfl rfl rfl rfl ?_
      refine g_aload_n (pc' := 76)  hc rfl rfl rfl rfl ?_
      refine g_dup (pc' := 77)  hc rfl rfl rfl ?_
      refine z_getI (pc' := 80) (v := (I 19 3)) hc rfl rfl rfl sh_19 rfl rfl rfl ?_
      refine g_iconst (pc' := 81) (v := (1 : Int32)) hc rfl zki_1 rfl ?_
      refine g_iadd (pc' := 82)  hc rfl rfl ?_
      refine z_putI (pc' := 85) (L' := [(1, some 3, fun _ => o15), (1, some 4, fun _ => o12), (1, some 5, fun _ => o13), (1, some 6, fun _ => o14), (3, some 1, fun _ => o11), (19, some 3, fun _ => (((I 19 3)) + (1 : Int32))), (20, none, (upd ((I 20)) ((I 19 3)).toNatClampNeg o3)), (21, none, (upd ((I 21)) ((I 19 3)).toNatClampNeg o11)), (22, none, o10)]) hc rfl rfl rfl sh_19 rfl zft_3_3 rfl (fun h => Bool.noConfusion h) rfl rfl rfl ?_
      refine g_iload_n (pc' := 86)  hc rfl rfl rfl ?_
      replace h := zws h
      exact g_ireturn hc rfl rfl rfl (fun _ => ⟨rfl, rfl⟩) h
    · replace h := zwp_f h hx
      refine g_iload_n (pc' := 26)  hc rfl rfl rfl ?_
      replace h := zws h
      exact g_ireturn hc rfl rfl rfl (fun _ => ⟨rfl, rfl⟩) h
  · replace h := zwp_f h hx
    refine g_iconst (pc' := 10) (v := (2 : Int32)) hc rfl zki_2 rfl ?_
    replace h := zws h
    exact g_ireturn hc rfl rfl rfl (fun _ => ⟨rfl, rfl⟩) h
set_option maxRecDepth 4000 in
theorem ok_X4_readSeat_1_19 {p q : Nat} {I : pI} {J : pJ} {Q : pQ} {d : Nat} (hd : 8 ≤ d) (h : zwp (f_X4_readSeat (I 19 1) (I 23) (I 19 7) (J 19 2) (I 19 0) (I 2) (I 1 4) (I 1 5) (I 1 2) (I 1 6) (I 1 3)) (fun w => match w with | (r, o0, o1, o2, o3, o4, o5) => Q (.inl (some (.int r))) (zS p q I [(1, some 3, fun _ => o5), (1, some 4, fun _ => o2), (1, some 5, fun _ => o3), (1, some 6, fun _ => o4), (19, some 7, fun _ => o1), (23, none, o0)] J []))) : pm_call M cost zext d 37 [.ref 1, .ref 19] (pm_st 108 (shp p q) I J) Q := by
  obtain ⟨d, rfl⟩ := zd1 hd rfl
  have hc := pm_call_m (M := M) (cost := cost) zext_m d
  refine z_in (L := [(1, some 3, fun _ => (I 1 3)), (1, some 4, fun _ => (I 1 4)), (1, some 5, fun _ => (I 1 5)), (1, some 6, fun _ => (I 1 6)), (19, some 7, fun _ => (I 19 7)), (23, none, (I 23))]) (K := []) (ls := [some (.ref 1), some (.ref 19), none]) zmt_37 zco_37 rfl rfl (zid_s (zid_s (zid_s (zid_s (zid_s (zid_a zid_n)))))) zid_n ?_
  delta f_X4_readSeat at h
  refine g_aload_n (pc' := 1)  hc rfl rfl rfl rfl ?_
  refine z_getI (pc' := 4) (v := (I 19 7)) hc rfl rfl rfl sh_19 rfl rfl rfl ?_
  refine g_bipush (pc' := 6) (v := (8 : Int32)) hc rfl zkb_8 rfl ?_
  refine g_icmp_lt (pc' := 9) hc rfl rfl (fun hx => ?_) (fun hx => ?_)
  · replace h := zwp_t h hx
    refine g_aload_n (pc' := 12)  hc rfl rfl rfl rfl ?_
    refine z_virt (as := []) (a := 1) (r := []) hc rfl rfl rfl rfl sh_1 rfl zco_83 rfl rfl rfl ?_
    refine ok_X9_advance_1 (zdp hd rfl) (zwp_mono (zwp_bind h) ?_)
    rintro ⟨o1, o2, o3, o4⟩ h
    refine z_po (pc' := 15) (st' := []) (v := none) (L' := [(1, some 3, fun _ => o4), (1, some 4, fun _ => o1), (1, some 5, fun _ => o2), (1, some 6, fun _ => o3), (19, some 7, fun _ => (I 19 7)), (23, none, (I 23))]) (K' := []) zco_83 rfl rfl rfl rfl rfl rfl rfl rfl ?_
    refine g_aload_n (pc' := 16)  hc rfl rfl rfl rfl ?_
    refine g_aload_n (pc' := 17)  hc rfl rfl rfl rfl ?_
    refine z_stat (as := [.ref 1, .ref 19]) (r := []) hc rfl rfl rfl rfl zco_34 rfl rfl rfl ?_
    refine ok_X4_cellFault_1_19 (zdp hd rfl) (zwp_mono (zwp_bind h) ?_)
    rintro r5 h
    refine z_po (pc' := 20) (st' := [.int r5]) (v := (some (.int r5))) (L' := [(1, some 3, fun _ => o4), (1, some 4, fun _ => o1), (1, some 5, fun _ => o2), (1, some 6, fun _ => o3), (19, some 7, fun _ => (I 19 7)), (23, none, (I 23))]) (K' := []) zco_34 rfl rfl rfl rfl rfl rfl rfl rfl ?_
    refine g_istore_n (pc' := 21) (ls1 := [some (.ref 1), some (.ref 19), some (.int r5)]) hc rfl (zlt rfl) rfl rfl ?_
    refine g_iload_n (pc' := 22)  hc rfl rfl rfl ?_
    refine g_if_eq (pc' := 25) hc rfl rfl (fun hx => ?_) (fun hx => ?_)
    · replace h := zwp_t h hx
      refine g_aload_n (pc' := 28)  hc rfl rfl rfl rfl ?_
      refine z_getR (pc' := 31)  hc rfl rfl rfl sh_19 rfl rfl ?_
      refine g_aload_n (pc' := 32)  hc rfl rfl rfl rfl ?_
      refine z_getI (pc' := 35) (v := (I 19 7)) hc rfl rfl rfl sh_19 rfl rfl rfl ?_
      refine g_aload_n (pc' := 36)  hc rfl rfl rfl rfl ?_
      refine z_getI (pc' := 39) (v := o3) hc rfl rfl rfl sh_1 rfl rfl rfl ?_
      have hb := (zwp_bnd h).1
      replace h := (zwp_bnd h).2
      refine z_iastore (pc' := 40) (g := (I 23)) (L' := [(1, some 3, fun _ => o4), (1, some 4, fun _ => o1), (1, some 5, fun _ => o2), (1, some 6, fun _ => o3), (19, some 7, fun _ => (I 19 7)), (23, none, (upd ((I 23)) ((I 19 7)).toNatClampNeg o3))]) hc rfl rfl sh_23 hb rfl rfl rfl rfl ?_
      refine g_aload_n (pc' := 41)  hc rfl rfl rfl rfl ?_
      refine g_dup (pc' := 42)  hc rfl rfl rfl ?_
      refine z_getI (pc' := 45) (v := (I 19 7)) hc rfl rfl rfl sh_19 rfl rfl rfl ?_
      refine g_iconst (pc' := 46) (v := (1 : Int32)) hc rfl zki_1 rfl ?_
      refine g_iadd (pc' := 47)  hc rfl rfl ?_
      refine z_putI (pc' := 50) (L' := [(1, some 3, fun _ => o4), (1, some 4, fun _ => o1), (1, some 5, fun _ => o2), (1, some 6, fun _ => o3), (19, some 7, fun _ => (((I 19 7)) + (1 : Int32))), (23, none, (upd ((I 23)) ((I 19 7)).toNatClampNeg o3))]) hc rfl rfl rfl sh_19 rfl zft_3_7 rfl (fun h => Bool.noConfusion h) rfl rfl rfl ?_
      refine g_aload_n (pc' := 51)  hc rfl rfl rfl rfl ?_
      refine z_virt (as := []) (a := 1) (r := []) hc rfl rfl rfl rfl sh_1 rfl zco_83 rfl rfl rfl ?_
      refine ok_X9_advance_1 (zdp hd rfl) (zwp_mono (zwp_bind h) ?_)
      rintro ⟨o6, o7, o8, o9⟩ h
      refine z_po (pc' := 54) (st' := []) (v := none) (L' := [(1, some 3, fun _ => o9), (1, some 4, fun _ => o6), (1, some 5, fun _ => o7), (1, some 6, fun _ => o8), (19, some 7, fun _ => (((I 19 7)) + (1 : Int32))), (23, none, (upd ((I 23)) ((I 19 7)).toNatClampNeg o3))]) (K' := []) zco_83 rfl rfl rfl rfl rfl rfl rfl rfl ?_
      refine g_iconst (pc' := 55) (v := (0 : Int32)) hc rfl zki_0 rfl ?_
      replace h := zws h
      exact g_ireturn hc rfl rfl rfl (fun _ => ⟨rfl, rfl⟩) h
    · replace h := zwp_f h hx
      refine g_iload_n (pc' := 26)  hc rfl rfl rfl ?_
      replace h := zws h
      exact g_ireturn hc rfl rfl rfl (fun _ => ⟨rfl, rfl⟩) h
  · replace h := zwp_f h hx
    refine g_iconst (pc' := 10) (v := (2 : Int32)) hc rfl zki_2 rfl ?_
    replace h := zws h
    exact g_ireturn hc rfl rfl rfl (fun _ => ⟨rfl, rfl⟩) h
set_option maxRecDepth 4000 in
theorem ok_X4_readRow_3_1_24 {p q : Nat} {I : pI} {J : pJ} {a3 : Int32} {a4 : Int32} {Q : pQ} {d : Nat} (hd : 8 ≤ d) (h : zwp (f_X4_readRow a3 a4 8 (I 24) (I 3 1) (I 2) (I 1 4) (I 1 5) (I 1 2) (I 1 6) (I 1 3)) (fun w => match w with | (r, o0, o1, o2, o3, o4, o5) => Q (.inl (some (.int r))) (zS p q I [(1, some 3, fun _ => o5), (1, some 4, fun _ => o2), (1, some 5, fun _ => o3), (1, some 6, fun _ => o4), (3, some 1, fun _ => o1), (24, none, o0)] J []))) : pm_call M cost zext d 39 [.ref 3, .ref 1, .ref 24, .int a3, .int a4] (pm_st 108 (shp p q) I J) Q := by
  obtain ⟨d, rfl⟩ := zd1 hd rfl
  have hc := pm_call_m (M := M) (cost := cost) zext_m d
  refine z_in (L := [(1, some 3, fun _ => (I 1 3)), (1, some 4, fun _ => (I 1 4)), (1, some 5, fun _ => (I 1 5)), (1, some 6, fun _ => (I 1 6)), (3, some 1, fun _ => (I 3 1)), (24, none, (I 24))]) (K := []) (ls := [some (.ref 3), some (.ref 1), some (.ref 24), some (.int a3), some (.int a4), none]) zmt_39 zco_39 rfl rfl (zid_s (zid_s (zid_s (zid_s (zid_s (zid_a zid_n)))))) zid_n ?_
  delta f_X4_readRow at h
  refine g_aload_n (pc' := 1)  hc rfl rfl rfl rfl ?_
  refine g_iconst (pc' := 2) (v := (0 : Int32)) hc rfl zki_0 rfl ?_
  refine z_putI (pc' := 5) (L' := [(1, some 3, fun _ => (I 1 3)), (1, some 4, fun _ => (I 1 4)), (1, some 5, fun _ => (I 1 5)), (1, some 6, fun _ => (I 1 6)), (3, some 1, fun _ => (0 : Int32)), (24, none, (I 24))]) hc rfl rfl rfl sh_3 rfl zft_4_1 rfl (fun h => Bool.noConfusion h) rfl rfl rfl ?_
  refine g_iconst (pc' := 6) (v := (0 : Int32)) hc rfl zki_0 rfl ?_
  refine g_istore (pc' := 8) (ls1 := [some (.ref 3), some (.ref 1), some (.ref 24), some (.int a3), some (.int a4), some (.int (0 : Int32))]) hc rfl (zlt rfl) rfl rfl ?_
  refine zjs (G := (fun (g : (Nat → Int32) × Int32 × Int32 × Int32 × Int32 × Int32) => match g with | (y9, y10, y11, y12, y13, y14) => ∀ z8 : Option Value, znl z8 = true → pm_ev C_X4_readRow (d + 1) (pm_call M cost zext d) cost (false, false) 108 0 0 Q 81 [some (.ref 3), some (.ref 1), some (.ref 24), some (.int a3), some (.int a4), z8] [] 0 0 (zS p q I [(1, some 3, fun _ => y14), (1, some 4, fun _ => y11), (1, some 5, fun _ => y12), (1, some 6, fun _ => y13), (3, some 1, fun _ => y10), (24, none, y9)] J []))) h ?_ (fun h => ?_)
  · rintro ⟨y9, y10, y11, y12, y13, y14⟩ h z8 hz8
    refine g_aload_n (pc' := 82)  hc rfl rfl rfl rfl ?_
    refine z_getI (pc' := 85) (v := y10) hc rfl rfl rfl sh_3 rfl rfl rfl ?_
    refine g_if_le (pc' := 88) hc rfl rfl (fun hx => ?_) (fun hx => ?_)
    · replace h := zwp_t h hx
      refine g_iconst (pc' := 93) (v := (1 : Int32)) hc rfl zki_1 rfl ?_
      replace h := zws h
      exact g_ireturn hc rfl rfl rfl (fun _ => ⟨rfl, rfl⟩) h
    · replace h := zwp_f h hx
      refine g_iconst (pc' := 89) (v := (0 : Int32)) hc rfl zki_0 rfl ?_
      refine g_goto hc rfl ?_
      replace h := zws h
      exact g_ireturn hc rfl rfl rfl (fun _ => ⟨rfl, rfl⟩) h
  refine zitr_ev (G := (fun (g : Int32 × (Nat → Int32) × Int32 × Int32 × Int32 × Int32 × Int32) => match g with | (x1, x2, x3, x4, x5, x6, x7) => pm_ev C_X4_readRow (d + 1) (pm_call M cost zext d) cost (false, false) 108 0 0 Q 8 [some (.ref 3), some (.ref 1), some (.ref 24), some (.int a3), some (.int a4), some (.int x1)] [] 0 0 (zS p q I [(1, some 3, fun _ => x7), (1, some 4, fun _ => x4), (1, some 5, fun _ => x5), (1, some 6, fun _ => x6), (3, some 1, fun _ => x3), (24, none, x2)] J []))) ?_ zFU ((0 : Int32), (I 24), (0 : Int32), (I 1 4), (I 1 5), (I 1 6), (I 1 3)) h
  rintro ⟨x1, x2, x3, x4, x5, x6, x7⟩ h
  refine g_iload (pc' := 10)  hc rfl rfl rfl ?_
  refine g_bipush (pc' := 12) (v := (8 : Int32)) hc rfl zkb_8 rfl ?_
  refine g_icmp_gt (pc' := 15) hc rfl rfl (fun hx => ?_) (fun hx => ?_)
  · replace h := zwp_t h hx
    replace h := zwp_r h
    exact h (some (.int x1)) rfl
  · replace h := zwp_f h hx
    refine g_aload_n (pc' := 16)  hc rfl rfl rfl rfl ?_
    refine z_getI (pc' := 19) (v := x5) hc rfl rfl rfl sh_1 rfl rfl rfl ?_
    refine g_iconst (pc' := 20) (v := (2 : Int32)) hc rfl zki_2 rfl ?_
    refine g_icmp_ne (pc' := 23) hc rfl rfl (fun hx => ?_) (fun hx => ?_)
    · replace h := zwp_f h hx
      replace h := zwp_r h
      exact h (some (.int x1)) rfl
    · replace h := zwp_t h hx
      refine g_iload (pc' := 25)  hc rfl rfl rfl ?_
      refine g_bipush (pc' := 27) (v := (8 : Int32)) hc rfl zkb_8 rfl ?_
      refine g_icmp_eq (pc' := 30) hc rfl rfl (fun hx => ?_) (fun hx => ?_)
      · replace h := zwp_t h hx
        refine g_iconst (pc' := 41) (v := (2 : Int32)) hc rfl zki_2 rfl ?_
        replace h := zws h
        exact g_ireturn hc rfl rfl rfl (fun _ => ⟨rfl, rfl⟩) h
      · replace h := zwp_f h hx
        refine g_aload_n (pc' := 31)  hc rfl rfl rfl rfl ?_
        refine g_iconst (pc' := 32) (v := (0 : Int32)) hc rfl zki_0 rfl ?_
        refine g_iload (pc' := 34)  hc rfl rfl rfl ?_
        refine z_virt (as := [.int (0 : Int32), .int a4]) (a := 1) (r := []) hc rfl rfl rfl rfl sh_1 rfl zco_87 rfl rfl rfl ?_
        refine ok_X9_numberFault_1 (zdp hd rfl) (zwp_mono (zwp_bind h) ?_)
        rintro r15 h
        refine z_po (pc' := 37) (st' := [.int r15]) (v := (some (.int r15))) (L' := [(1, some 3, fun _ => x7), (1, some 4, fun _ => x4), (1, some 5, fun _ => x5), (1, some 6, fun _ => x6), (3, some 1, fun _ => x3), (24, none, x2)]) (K' := []) zco_87 rfl rfl rfl rfl rfl rfl rfl rfl ?_
        refine g_if_eq (pc' := 40) hc rfl rfl (fun hx => ?_) (fun hx => ?_)
        · replace h := zwp_t h hx
          refine g_iload_n (pc' := 43)  hc rfl rfl rfl ?_
          refine g_iload (pc' := 45)  hc rfl rfl rfl ?_
          refine g_iadd (pc' := 46)  hc rfl rfl ?_
          refine g_aload_n (pc' := 47)  hc rfl rfl rfl rfl ?_
          refine z_alen (pc' := 48) (v := (Int32.ofNat 8)) hc rfl rfl sh_24 ⟨by decide, by decide⟩ rfl rfl ?_
          refine zjn (G := (fun (j16 : (Nat → Int32)) => pm_ev C_X4_readRow (d + 1) (pm_call M cost zext d) cost (false, false) 108 0 0 Q 61 [some (.ref 3), some (.ref 1), some (.ref 24), some (.int a3), some (.int a4), some (.int x1)] [] 0 0 (zS p q I [(1, some 3, fun _ => x7), (1, some 4, fun _ => x4), (1, some 5, fun _ => x5), (1, some 6, fun _ => x6), (3, some 1, fun _ => x3), (24, none, j16)] J []))) (zwp_bind h) ?_ (fun h => ?_)
          · rintro j16 h
            refine g_aload_n (pc' := 62)  hc rfl rfl rfl rfl ?_
            refine g_dup (pc' := 63)  hc rfl rfl rfl ?_
            refine z_getI (pc' := 66) (v := x3) hc rfl rfl rfl sh_3 rfl rfl rfl ?_
            refine g_iconst (pc' := 67) (v := (1 : Int32)) hc rfl zki_1 rfl ?_
            refine g_iadd (pc' := 68)  hc rfl rfl ?_
            refine z_putI (pc' := 71) (L' := [(1, some 3, fun _ => x7), (1, some 4, fun _ => x4), (1, some 5, fun _ => x5), (1, some 6, fun _ => x6), (3, some 1, fun _ => (x3 + (1 : Int32))), (24, none, j16)]) hc rfl rfl rfl sh_3 rfl zft_4_1 rfl (fun h => Bool.noConfusion h) rfl rfl rfl ?_
            refine g_aload_n (pc' := 72)  hc rfl rfl rfl rfl ?_
            refine z_virt (as := []) (a := 1) (r := []) hc rfl rfl rfl rfl sh_1 rfl zco_83 rfl rfl rfl ?_
            refine ok_X9_advance_1 (zdp hd rfl) (zwp_mono (zwp_bind h) ?_)
            rintro ⟨o17, o18, o19, o20⟩ h
            refine z_po (pc' := 75) (st' := []) (v := none) (L' := [(1, some 3, fun _ => o20), (1, some 4, fun _ => o17), (1, some 5, fun _ => o18), (1, some 6, fun _ => o19), (3, some 1, fun _ => (x3 + (1 : Int32))), (24, none, j16)]) (K' := []) zco_83 rfl rfl rfl rfl rfl rfl rfl rfl ?_
            refine g_iinc (pc' := 78) (ls1 := [some (.ref 3), some (.ref 1), some (.ref 24), some (.int a3), some (.int a4), some (.int (x1 + (1 : Int32)))]) hc rfl rfl zki_1 (zlt rfl) rfl rfl ?_
            refine g_goto hc rfl ?_
            replace h := zwp_l h
            exact h
          refine g_icmp_ge (pc' := 51) hc rfl rfl (fun hx => ?_) (fun hx => ?_)
          · replace h := zwp_t h hx
            replace h := zws h
            exact h
          · replace h := zwp_f h hx
            refine g_aload_n (pc' := 52)  hc rfl rfl rfl rfl ?_
            refine g_iload_n (pc' := 53)  hc rfl rfl rfl ?_
            refine g_iload (pc' := 55)  hc rfl rfl rfl ?_
            refine g_iadd (pc' := 56)  hc rfl rfl ?_
            refine g_aload_n (pc' := 57)  hc rfl rfl rfl rfl ?_
            refine z_getI (pc' := 60) (v := x6) hc rfl rfl rfl sh_1 rfl rfl rfl ?_
            have hb := (zwp_bnd h).1
            replace h := (zwp_bnd h).2
            refine z_iastore (pc' := 61) (g := x2) (L' := [(1, some 3, fun _ => x7), (1, some 4, fun _ => x4), (1, some 5, fun _ => x5), (1, some 6, fun _ => x6), (3, some 1, fun _ => x3), (24, none, (upd x2 (a3 + x1).toNatClampNeg x6))]) hc rfl rfl sh_24 hb rfl rfl rfl rfl ?_
            replace h := zws h
            exact h
        · replace h := zwp_f h hx
          refine g_iconst (pc' := 41) (v := (2 : Int32)) hc rfl zki_2 rfl ?_
          replace h := zws h
          exact g_ireturn hc rfl rfl rfl (fun _ => ⟨rfl, rfl⟩) h
set_option maxRecDepth 4000 in
theorem ok_X4_readLight_3_1_19 {p q : Nat} {I : pI} {J : pJ} {Q : pQ} {d : Nat} (hd : 9 ≤ d) (h : zwp (f_X4_readLight (I 24) (I 19 9) (I 3 1) (I 2) (I 1 4) (I 1 5) (I 1 2) (I 1 6) (I 1 3)) (fun w => match w with | (r, o0, o1, o2, o3, o4, o5, o6) => Q (.inl (some (.int r))) (zS p q I [(1, some 3, fun _ => o6), (1, some 4, fun _ => o3), (1, some 5, fun _ => o4), (1, some 6, fun _ => o5), (3, some 1, fun _ => o2), (19, some 9, fun _ => o1), (24, none, o0)] J []))) : pm_call M cost zext d 38 [.ref 3, .ref 1, .ref 19] (pm_st 108 (shp p q) I J) Q := by
  obtain ⟨d, rfl⟩ := zd1 hd rfl
  have hc := pm_call_m (M := M) (cost := cost) zext_m d
  refine z_in (L := [(1, some 3, fun _ => (I 1 3)), (1, some 4, fun _ => (I 1 4)), (1, some 5, fun _ => (I 1 5)), (1, some 6, fun _ => (I 1 6)), (3, some 1, fun _ => (I 3 1)), (19, some 9, fun _ => (I 19 9)), (24, none, (I 24))]) (K := []) (ls := [some (.ref 3), some (.ref 1), some (.ref 19), none]) zmt_38 zco_38 rfl rfl (zid_s (zid_s (zid_s (zid_s (zid_s (zid_s (zid_a zid_n))))))) zid_n ?_
  delta f_X4_readLight at h
  refine g_aload_n (pc' := 1)  hc rfl rfl rfl rfl ?_
  refine z_getI (pc' := 4) (v := (I 19 9)) hc rfl rfl rfl sh_19 rfl rfl rfl ?_
  refine g_if_le (pc' := 7) hc rfl rfl (fun hx => ?_) (fun hx => ?_)
  · replace h := zwp_t h hx
    refine g_aload_n (pc' := 10)  hc rfl rfl rfl rfl ?_
    refine z_virt (as := []) (a := 1) (r := []) hc rfl rfl rfl rfl sh_1 rfl zco_83 rfl rfl rfl ?_
    refine ok_X9_advance_1 (zdp hd rfl) (zwp_mono (zwp_bind h) ?_)
    rintro ⟨o1, o2, o3, o4⟩ h
    refine z_po (pc' := 13) (st' := []) (v := none) (L' := [(1, some 3, fun _ => o4), (1, some 4, fun _ => o1), (1, some 5, fun _ => o2), (1, some 6, fun _ => o3), (3, some 1, fun _ => (I 3 1)), (19, some 9, fun _ => (I 19 9)), (24, none, (I 24))]) (K' := []) zco_83 rfl rfl rfl rfl rfl rfl rfl rfl ?_
    refine g_aload_n (pc' := 14)  hc rfl rfl rfl rfl ?_
    refine g_aload_n (pc' := 15)  hc rfl rfl rfl rfl ?_
    refine g_aload_n (pc' := 16)  hc rfl rfl rfl rfl ?_
    refine z_getR (pc' := 19)  hc rfl rfl rfl sh_19 rfl rfl ?_
    refine g_iconst (pc' := 20) (v := (0 : Int32)) hc rfl zki_0 rfl ?_
    refine g_bipush (pc' := 22) (v := (9 : Int32)) hc rfl zkb_9 rfl ?_
    refine z_virt (as := [.ref 1, .ref 24, .int (0 : Int32), .int (9 : Int32)]) (a := 3) (r := []) hc rfl rfl rfl rfl sh_3 rfl zco_39 rfl rfl rfl ?_
    refine ok_X4_readRow_3_1_24 (zdp hd rfl) (zwp_mono (zwp_bind h) ?_)
    rintro ⟨r11, o5, o6, o7, o8, o9, o10⟩ h
    refine z_po (pc' := 25) (st' := [.int r11]) (v := (some (.int r11))) (L' := [(1, some 3, fun _ => o10), (1, some 4, fun _ => o7), (1, some 5, fun _ => o8), (1, some 6, fun _ => o9), (3, some 1, fun _ => o6), (19, some 9, fun _ => (I 19 9)), (24, none, o5)]) (K' := []) zco_39 rfl rfl rfl rfl rfl rfl rfl rfl ?_
    refine g_istore_n (pc' := 26) (ls1 := [some (.ref 3), some (.ref 1), some (.ref 19), some (.int r11)]) hc rfl (zlt rfl) rfl rfl ?_
    refine g_aload_n (pc' := 27)  hc rfl rfl rfl rfl ?_
    refine g_aload_n (pc' := 28)  hc rfl rfl rfl rfl ?_
    refine z_getI (pc' := 31) (v := o6) hc rfl rfl rfl sh_3 rfl rfl rfl ?_
    refine z_putI (pc' := 34) (L' := [(1, some 3, fun _ => o10), (1, some 4, fun _ => o7), (1, some 5, fun _ => o8), (1, some 6, fun _ => o9), (3, some 1, fun _ => o6), (19, some 9, fun _ => o6), (24, none, o5)]) hc rfl rfl rfl sh_19 rfl zft_3_9 rfl (fun h => Bool.noConfusion h) rfl rfl rfl ?_
    refine g_iload_n (pc' := 35)  hc rfl rfl rfl ?_
    replace h := zws h
    exact g_ireturn hc rfl rfl rfl (fun _ => ⟨rfl, rfl⟩) h
  · replace h := zwp_f h hx
    refine g_iconst (pc' := 8) (v := (5 : Int32)) hc rfl zki_5 rfl ?_
    replace h := zws h
    exact g_ireturn hc rfl rfl rfl (fun _ => ⟨rfl, rfl⟩) h
set_option maxRecDepth 4000 in
theorem ok_X4_readDull_1_19 {p q : Nat} {I : pI} {J : pJ} {Q : pQ} {d : Nat} (hd : 8 ≤ d) (h : zwp (f_X4_readDull (I 19 12) (I 19 11) (I 2) (I 1 4) (I 1 5) (I 1 2) (I 1 6) (I 1 3)) (fun w => match w with | (r, o0, o1, o2, o3, o4, o5) => Q (.inl (some (.int r))) (zS p q I [(1, some 3, fun _ => o5), (1, some 4, fun _ => o2), (1, some 5, fun _ => o3), (1, some 6, fun _ => o4), (19, some 11, fun _ => o1), (19, some 12, fun _ => o0)] J []))) : pm_call M cost zext d 40 [.ref 1, .ref 19] (pm_st 108 (shp p q) I J) Q := by
  obtain ⟨d, rfl⟩ := zd1 hd rfl
  have hc := pm_call_m (M := M) (cost := cost) zext_m d
  refine z_in (L := [(1, some 3, fun _ => (I 1 3)), (1, some 4, fun _ => (I 1 4)), (1, some 5, fun _ => (I 1 5)), (1, some 6, fun _ => (I 1 6)), (19, some 11, fun _ => (I 19 11)), (19, some 12, fun _ => (I 19 12))]) (K := []) (ls := [some (.ref 1), some (.ref 19), none]) zmt_40 zco_40 rfl rfl (zid_s (zid_s (zid_s (zid_s (zid_s (zid_s zid_n)))))) zid_n ?_
  delta f_X4_readDull at h
  refine g_aload_n (pc' := 1)  hc rfl rfl rfl rfl ?_
  refine z_getI (pc' := 4) (v := (I 19 11)) hc rfl rfl rfl sh_19 rfl rfl rfl ?_
  refine g_if_eq (pc' := 7) hc rfl rfl (fun hx => ?_) (fun hx => ?_)
  · replace h := zwp_t h hx
    refine g_aload_n (pc' := 10)  hc rfl rfl rfl rfl ?_
    refine z_virt (as := []) (a := 1) (r := []) hc rfl rfl rfl rfl sh_1 rfl zco_83 rfl rfl rfl ?_
    refine ok_X9_advance_1 (zdp hd rfl) (zwp_mono (zwp_bind h) ?_)
    rintro ⟨o1, o2, o3, o4⟩ h
    refine z_po (pc' := 13) (st' := []) (v := none) (L' := [(1, some 3, fun _ => o4), (1, some 4, fun _ => o1), (1, some 5, fun _ => o2), (1, some 6, fun _ => o3), (19, some 11, fun _ => (I 19 11)), (19, some 12, fun _ => (I 19 12))]) (K' := []) zco_83 rfl rfl rfl rfl rfl rfl rfl rfl ?_
    refine g_aload_n (pc' := 14)  hc rfl rfl rfl rfl ?_
    refine g_iconst (pc' := 15) (v := (0 : Int32)) hc rfl zki_0 rfl ?_
    refine g_bipush (pc' := 17) (v := (9 : Int32)) hc rfl zkb_9 rfl ?_
    refine z_virt (as := [.int (0 : Int32), .int (9 : Int32)]) (a := 1) (r := []) hc rfl rfl rfl rfl sh_1 rfl zco_87 rfl rfl rfl ?_
    refine ok_X9_numberFault_1 (zdp hd rfl) (zwp_mono (zwp_bind h) ?_)
    rintro r5 h
    refine z_po (pc' := 20) (st' := [.int r5]) (v := (some (.int r5))) (L' := [(1, some 3, fun _ => o4), (1, some 4, fun _ => o1), (1, some 5, fun _ => o2), (1, some 6, fun _ => o3), (19, some 11, fun _ => (I 19 11)), (19, some 12, fun _ => (I 19 12))]) (K' := []) zco_87 rfl rfl rfl rfl rfl rfl rfl rfl ?_
    refine g_istore_n (pc' := 21) (ls1 := [some (.ref 1), some (.ref 19), some (.int r5)]) hc rfl (zlt rfl) rfl rfl ?_
    refine g_iload_n (pc' := 22)  hc rfl rfl rfl ?_
    refine g_if_eq (pc' := 25) hc rfl rfl (fun hx => ?_) (fun hx => ?_)
    · replace h := zwp_t h hx
      refine g_aload_n (pc' := 28)  hc rfl rfl rfl rfl ?_
      refine g_iconst (pc' := 29) (v := (1 : Int32)) hc rfl zki_1 rfl ?_
      refine z_putI (pc' := 32) (L' := [(1, some 3, fun _ => o4), (1, some 4, fun _ => o1), (1, some 5, fun _ => o2), (1, some 6, fun _ => o3), (19, some 11, fun _ => (1 : Int32)), (19, some 12, fun _ => (I 19 12))]) hc rfl rfl rfl sh_19 rfl zft_3_11 rfl (fun h => Bool.noConfusion h) rfl rfl rfl ?_
      refine g_aload_n (pc' := 33)  hc rfl rfl rfl rfl ?_
      refine g_aload_n (pc' := 34)  hc rfl rfl rfl rfl ?_
      refine z_getI (pc' := 37) (v := o3) hc rfl rfl rfl sh_1 rfl rfl rfl ?_
      refine z_putI (pc' := 40) (L' := [(1, some 3, fun _ => o4), (1, some 4, fun _ => o1), (1, some 5, fun _ => o2), (1, some 6, fun _ => o3), (19, some 11, fun _ => (1 : Int32)), (19, some 12, fun _ => o3)]) hc rfl rfl rfl sh_19 rfl zft_3_12 rfl (fun h => Bool.noConfusion h) rfl rfl rfl ?_
      refine g_aload_n (pc' := 41)  hc rfl rfl rfl rfl ?_
      refine z_virt (as := []) (a := 1) (r := []) hc rfl rfl rfl rfl sh_1 rfl zco_83 rfl rfl rfl ?_
      refine ok_X9_advance_1 (zdp hd rfl) (zwp_mono (zwp_bind h) ?_)
      rintro ⟨o6, o7, o8, o9⟩ h
      refine z_po (pc' := 44) (st' := []) (v := none) (L' := [(1, some 3, fun _ => o9), (1, some 4, fun _ => o6), (1, some 5, fun _ => o7), (1, some 6, fun _ => o8), (19, some 11, fun _ => (1 : Int32)), (19, some 12, fun _ => o3)]) (K' := []) zco_83 rfl rfl rfl rfl rfl rfl rfl rfl ?_
      refine g_iconst (pc' := 45) (v := (0 : Int32)) hc rfl zki_0 rfl ?_
      replace h := zws h
      exact g_ireturn hc rfl rfl rfl (fun _ => ⟨rfl, rfl⟩) h
    · replace h := zwp_f h hx
      refine g_iload_n (pc' := 26)  hc rfl rfl rfl ?_
      replace h := zws h
      exact g_ireturn hc rfl rfl rfl (fun _ => ⟨rfl, rfl⟩) h
  · replace h := zwp_f h hx
    refine g_iconst (pc' := 8) (v := (5 : Int32)) hc rfl zki_5 rfl ?_
    replace h := zws h
    exact g_ireturn hc rfl rfl rfl (fun _ => ⟨rfl, rfl⟩) h
set_option maxRecDepth 4000 in
theorem ok_X5_isTold_25 {p q : Nat} {I : pI} {J : pJ} {Q : pQ} {d : Nat} (hd : 1 ≤ d) (h : zwp (f_X5_isTold (I 25 2)) (fun r => Q (.inl (some (.int r))) (zS p q I [] J []))) : pm_call M cost zext d 43 [.ref 25] (pm_st 108 (shp p q) I J) Q := by
  obtain ⟨d, rfl⟩ := zd1 hd rfl
  have hc := pm_call_m (M := M) (cost := cost) zext_m d
  refine z_in (L := []) (K := []) (ls := [some (.ref 25)]) zmt_43 zco_43 rfl rfl zid_n zid_n ?_
  delta f_X5_isTold at h
  refine g_aload_n (pc' := 1)  hc rfl rfl rfl rfl ?_
  refine z_getI (pc' := 4) (v := (I 25 2)) hc rfl rfl rfl sh_25 rfl rfl rfl ?_
  refine g_if_le (pc' := 7) hc rfl rfl (fun hx => ?_) (fun hx => ?_)
  · replace h := zwp_t h hx
    refine g_iconst (pc' := 12) (v := (0 : Int32)) hc rfl zki_0 rfl ?_
    replace h := zws h
    exact g_ireturn hc rfl rfl rfl (fun _ => ⟨rfl, rfl⟩) h
  · replace h := zwp_f h hx
    refine g_iconst (pc' := 8) (v := (1 : Int32)) hc rfl zki_1 rfl ?_
    refine g_goto hc rfl ?_
    replace h := zws h
    exact g_ireturn hc rfl rfl rfl (fun _ => ⟨rfl, rfl⟩) h
set_option maxRecDepth 4000 in
theorem ok_X6_beginPart_4 {p q : Nat} {I : pI} {J : pJ} {a1 : Int32} {Q : pQ} {d : Nat} (hd : 1 ≤ d) (h : zwp (f_X6_beginPart a1 (I 4 4) (I 4 3) (I 4 5)) (fun w => match w with | (o0, o1, o2) => Q (.inl none) (zS p q I [(4, some 3, fun _ => o1), (4, some 4, fun _ => o0), (4, some 5, fun _ => o2)] J []))) : pm_call M cost zext d 50 [.ref 4, .int a1] (pm_st 108 (shp p q) I J) Q := by
  obtain ⟨d, rfl⟩ := zd1 hd rfl
  have hc := pm_call_m (M := M) (cost := cost) zext_m d
  refine z_in (L := [(4, some 3, fun _ => (I 4 3)), (4, some 4, fun _ => (I 4 4)), (4, some 5, fun _ => (I 4 5))]) (K := []) (ls := [some (.ref 4), some (.int a1)]) zmt_50 zco_50 rfl rfl (zid_s (zid_s (zid_s zid_n))) zid_n ?_
  delta f_X6_beginPart at h
  refine g_aload_n (pc' := 1)  hc rfl rfl rfl rfl ?_
  refine g_iconst (pc' := 2) (v := (1 : Int32)) hc rfl zki_1 rfl ?_
  refine z_putI (pc' := 5) (L' := [(4, some 3, fun _ => (I 4 3)), (4, some 4, fun _ => (I 4 4)), (4, some 5, fun _ => (1 : Int32))]) hc rfl rfl rfl sh_4 rfl zft_6_5 rfl (fun h => Bool.noConfusion h) rfl rfl rfl ?_
  refine g_aload_n (pc' := 6)  hc rfl rfl rfl rfl ?_
  refine g_iload_n (pc' := 7)  hc rfl rfl rfl ?_
  have hz := (zwp_bol h).1
  replace h := (zwp_bol h).2
  refine z_putI (pc' := 10) (L' := [(4, some 3, fun _ => (I 4 3)), (4, some 4, fun _ => a1), (4, some 5, fun _ => (1 : Int32))]) hc rfl rfl rfl sh_4 rfl zft_6_4 hz (fun h => Bool.noConfusion h) rfl rfl rfl ?_
  refine g_aload_n (pc' := 11)  hc rfl rfl rfl rfl ?_
  refine g_iconst (pc' := 12) (v := (0 : Int32)) hc rfl zki_0 rfl ?_
  refine z_putI (pc' := 15) (L' := [(4, some 3, fun _ => (0 : Int32)), (4, some 4, fun _ => a1), (4, some 5, fun _ => (1 : Int32))]) hc rfl rfl rfl sh_4 rfl zft_6_3 rfl (fun h => Bool.noConfusion h) rfl rfl rfl ?_
  replace h := zws h
  exact g_return hc rfl rfl (fun _ => ⟨rfl, rfl⟩) h
set_option maxRecDepth 4000 in
theorem ok_X6_isEnd_4_1 {p q : Nat} {I : pI} {J : pJ} {Q : pQ} {d : Nat} (hd : 2 ≤ d) (h : zwp (f_X6_isEnd (I 4 2) (I 4 5) (I 2) (I 1 5) (I 1 3)) (fun r => Q (.inl (some (.int r))) (zS p q I [] J []))) : pm_call M cost zext d 49 [.ref 4, .ref 1] (pm_st 108 (shp p q) I J) Q := by
  obtain ⟨d, rfl⟩ := zd1 hd rfl
  have hc := pm_call_m (M := M) (cost := cost) zext_m d
  refine z_in (L := []) (K := []) (ls := [some (.ref 4), some (.ref 1)]) zmt_49 zco_49 rfl rfl zid_n zid_n ?_
  delta f_X6_isEnd at h
  refine g_aload_n (pc' := 1)  hc rfl rfl rfl rfl ?_
  refine z_getI (pc' := 4) (v := (I 4 5)) hc rfl rfl rfl sh_4 rfl rfl rfl ?_
  refine g_if_ne (pc' := 7) hc rfl rfl (fun hx => ?_) (fun hx => ?_)
  · replace h := zwp_f h hx
    refine g_iconst (pc' := 28) (v := (0 : Int32)) hc rfl zki_0 rfl ?_
    replace h := zws h
    exact g_ireturn hc rfl rfl rfl (fun _ => ⟨rfl, rfl⟩) h
  · replace h := zwp_t h hx
    refine g_aload_n (pc' := 8)  hc rfl rfl rfl rfl ?_
    refine z_getI (pc' := 11) (v := (I 4 2)) hc rfl rfl rfl sh_4 rfl rfl rfl ?_
    refine g_if_ne (pc' := 14) hc rfl rfl (fun hx => ?_) (fun hx => ?_)
    · replace h := zwp_f h hx
      refine g_iconst (pc' := 28) (v := (0 : Int32)) hc rfl zki_0 rfl ?_
      replace h := zws h
      exact g_ireturn hc rfl rfl rfl (fun _ => ⟨rfl, rfl⟩) h
    · replace h := zwp_t h hx
      refine g_aload_n (pc' := 15)  hc rfl rfl rfl rfl ?_
      refine g_bipush (pc' := 17) (v := (59 : Int32)) hc rfl zkb_59 rfl ?_
      refine z_virt (as := [.int (59 : Int32)]) (a := 1) (r := []) hc rfl rfl rfl rfl sh_1 rfl zco_88 rfl rfl rfl ?_
      refine ok_X9_isSign_1 (zdp hd rfl) (zwp_mono (zwp_bind h) ?_)
      rintro r1 h
      refine z_po (pc' := 20) (st' := [.int r1]) (v := (some (.int r1))) (L' := []) (K' := []) zco_88 rfl rfl rfl rfl rfl rfl rfl rfl ?_
      refine g_if_eq (pc' := 23) hc rfl rfl (fun hx => ?_) (fun hx => ?_)
      · replace h := zwp_t h hx
        refine g_iconst (pc' := 28) (v := (0 : Int32)) hc rfl zki_0 rfl ?_
        replace h := zws h
        exact g_ireturn hc rfl rfl rfl (fun _ => ⟨rfl, rfl⟩) h
      · replace h := zwp_f h hx
        refine g_iconst (pc' := 24) (v := (1 : Int32)) hc rfl zki_1 rfl ?_
        refine g_goto hc rfl ?_
        replace h := zws h
        exact g_ireturn hc rfl rfl rfl (fun _ => ⟨rfl, rfl⟩) h
set_option maxRecDepth 4000 in
theorem ok_X6_push_4 {p q : Nat} {I : pI} {J : pJ} {a1 : Int32} {Q : pQ} {d : Nat} (hd : 1 ≤ d) (h : zwp (f_X6_push a1 (I 5) (I 4 1)) (fun w => match w with | (o0, o1) => Q (.inl none) (zS p q I [(4, some 1, fun _ => o1), (5, none, o0)] J []))) : pm_call M cost zext d 58 [.ref 4, .int a1] (pm_st 108 (shp p q) I J) Q := by
  obtain ⟨d, rfl⟩ := zd1 hd rfl
  have hc := pm_call_m (M := M) (cost := cost) zext_m d
  refine z_in (L := [(4, some 1, fun _ => (I 4 1)), (5, none, (I 5))]) (K := []) (ls := [some (.ref 4), some (.int a1)]) zmt_58 zco_58 rfl rfl (zid_s (zid_a zid_n)) zid_n ?_
  delta f_X6_push at h
  refine g_aload_n (pc' := 1)  hc rfl rfl rfl rfl ?_
  refine z_getI (pc' := 4) (v := (I 4 1)) hc rfl rfl rfl sh_4 rfl rfl rfl ?_
  refine g_aload_n (pc' := 5)  hc rfl rfl rfl rfl ?_
  refine z_getR (pc' := 8)  hc rfl rfl rfl sh_4 rfl rfl ?_
  refine z_alen (pc' := 9) (v := (128 : Int32)) hc rfl rfl sh_5 ⟨by decide, by decide⟩ zkn_128 rfl ?_
  refine g_icmp_ge (pc' := 12) hc rfl rfl (fun hx => ?_) (fun hx => ?_)
  · replace h := zwp_t h hx
    replace h := zws h
    exact g_return hc rfl rfl (fun _ => ⟨rfl, rfl⟩) h
  · replace h := zwp_f h hx
    refine g_aload_n (pc' := 13)  hc rfl rfl rfl rfl ?_
    refine z_getR (pc' := 16)  hc rfl rfl rfl sh_4 rfl rfl ?_
    refine g_aload_n (pc' := 17)  hc rfl rfl rfl rfl ?_
    refine z_getI (pc' := 20) (v := (I 4 1)) hc rfl rfl rfl sh_4 rfl rfl rfl ?_
    refine g_iload_n (pc' := 21)  hc rfl rfl rfl ?_
    have hb := (zwp_bnd h).1
    replace h := (zwp_bnd h).2
    refine z_iastore (pc' := 22) (g := (I 5)) (L' := [(4, some 1, fun _ => (I 4 1)), (5, none, (upd ((I 5)) ((I 4 1)).toNatClampNeg a1))]) hc rfl rfl sh_5 hb rfl rfl rfl rfl ?_
    refine g_aload_n (pc' := 23)  hc rfl rfl rfl rfl ?_
    refine g_dup (pc' := 24)  hc rfl rfl rfl ?_
    refine z_getI (pc' := 27) (v := (I 4 1)) hc rfl rfl rfl sh_4 rfl rfl rfl ?_
    refine g_iconst (pc' := 28) (v := (1 : Int32)) hc rfl zki_1 rfl ?_
    refine g_iadd (pc' := 29)  hc rfl rfl ?_
    refine z_putI (pc' := 32) (L' := [(4, some 1, fun _ => (((I 4 1)) + (1 : Int32))), (5, none, (upd ((I 5)) ((I 4 1)).toNatClampNeg a1))]) hc rfl rfl rfl sh_4 rfl zft_6_1 rfl (fun h => Bool.noConfusion h) rfl rfl rfl ?_
    replace h := zws h
    exact g_return hc rfl rfl (fun _ => ⟨rfl, rfl⟩) h
set_option maxRecDepth 4000 in
theorem ok_X5_add_25 {p q : Nat} {I : pI} {J : pJ} {a1 : Int32} {Q : pQ} {d : Nat} (hd : 1 ≤ d) (h : zwp (f_X5_add a1 (I 27) (I 25 2)) (fun w => match w with | (o0, o1) => Q (.inl none) (zS p q I [(25, some 2, fun _ => o1), (27, none, o0)] J []))) : pm_call M cost zext d 44 [.ref 25, .int a1] (pm_st 108 (shp p q) I J) Q := by
  obtain ⟨d, rfl⟩ := zd1 hd rfl
  have hc := pm_call_m (M := M) (cost := cost) zext_m d
  refine z_in (L := [(25, some 2, fun _ => (I 25 2)), (27, none, (I 27))]) (K := []) (ls := [some (.ref 25), some (.int a1)]) zmt_44 zco_44 rfl rfl (zid_s (zid_a zid_n)) zid_n ?_
  delta f_X5_add at h
  refine g_aload_n (pc' := 1)  hc rfl rfl rfl rfl ?_
  refine z_getI (pc' := 4) (v := (I 25 2)) hc rfl rfl rfl sh_25 rfl rfl rfl ?_
  refine g_sipush (pc' := 7) (v := (700 : Int32)) hc rfl zks_700 rfl ?_
  refine g_icmp_ge (pc' := 10) hc rfl rfl (fun hx => ?_) (fun hx => ?_)
  · replace h := zwp_t h hx
    replace h := zws h
    exact g_return hc rfl rfl (fun _ => ⟨rfl, rfl⟩) h
  · replace h := zwp_f h hx
    refine g_aload_n (pc' := 11)  hc rfl rfl rfl rfl ?_
    refine z_getR (pc' := 14)  hc rfl rfl rfl sh_25 rfl rfl ?_
    refine g_aload_n (pc' := 15)  hc rfl rfl rfl rfl ?_
    refine z_getI (pc' := 18) (v := (I 25 2)) hc rfl rfl rfl sh_25 rfl rfl rfl ?_
    refine g_iload_n (pc' := 19)  hc rfl rfl rfl ?_
    have hb := (zwp_bnd h).1
    replace h := (zwp_bnd h).2
    refine z_iastore (pc' := 20) (g := (I 27)) (L' := [(25, some 2, fun _ => (I 25 2)), (27, none, (upd ((I 27)) ((I 25 2)).toNatClampNeg a1))]) hc rfl rfl sh_27 hb rfl rfl rfl rfl ?_
    refine g_aload_n (pc' := 21)  hc rfl rfl rfl rfl ?_
    refine g_dup (pc' := 22)  hc rfl rfl rfl ?_
    refine z_getI (pc' := 25) (v := (I 25 2)) hc rfl rfl rfl sh_25 rfl rfl rfl ?_
    refine g_iconst (pc' := 26) (v := (1 : Int32)) hc rfl zki_1 rfl ?_
    refine g_iadd (pc' := 27)  hc rfl rfl ?_
    refine z_putI (pc' := 30) (L' := [(25, some 2, fun _ => (((I 25 2)) + (1 : Int32))), (27, none, (upd ((I 27)) ((I 25 2)).toNatClampNeg a1))]) hc rfl rfl rfl sh_25 rfl zft_5_2 rfl (fun h => Bool.noConfusion h) rfl rfl rfl ?_
    replace h := zws h
    exact g_return hc rfl rfl (fun _ => ⟨rfl, rfl⟩) h
set_option maxRecDepth 4000 in
theorem ok_X6_readNumber_4_1_25 {p q : Nat} {I : pI} {J : pJ} {Q : pQ} {d : Nat} (hd : 2 ≤ d) (h : zwp (f_X6_readNumber (I 4 5) (I 27) (I 25 2) (I 1 4) (I 1 5) (I 1 6) (I 1 3)) (fun w => match w with | (r, o0, o1, o2) => Q (.inl (some (.int r))) (zS p q I [(4, some 5, fun _ => o0), (25, some 2, fun _ => o2), (27, none, o1)] J []))) : pm_call M cost zext d 52 [.ref 4, .ref 1, .ref 25] (pm_st 108 (shp p q) I J) Q := by
  obtain ⟨d, rfl⟩ := zd1 hd rfl
  have hc := pm_call_m (M := M) (cost := cost) zext_m d
  refine z_in (L := [(4, some 5, fun _ => (I 4 5)), (25, some 2, fun _ => (I 25 2)), (27, none, (I 27))]) (K := []) (ls := [some (.ref 4), some (.ref 1), some (.ref 25), none]) zmt_52 zco_52 rfl rfl (zid_s (zid_s (zid_a zid_n))) zid_n ?_
  delta f_X6_readNumber at h
  refine g_aload_n (pc' := 1)  hc rfl rfl rfl rfl ?_
  refine g_iconst (pc' := 2) (v := (0 : Int32)) hc rfl zki_0 rfl ?_
  refine g_sipush (pc' := 5) (v := (9999 : Int32)) hc rfl zks_9999 rfl ?_
  refine z_virt (as := [.int (0 : Int32), .int (9999 : Int32)]) (a := 1) (r := []) hc rfl rfl rfl rfl sh_1 rfl zco_87 rfl rfl rfl ?_
  refine ok_X9_numberFault_1 (zdp hd rfl) (zwp_mono (zwp_bind h) ?_)
  rintro r1 h
  refine z_po (pc' := 8) (st' := [.int r1]) (v := (some (.int r1))) (L' := [(4, some 5, fun _ => (I 4 5)), (25, some 2, fun _ => (I 25 2)), (27, none, (I 27))]) (K' := []) zco_87 rfl rfl rfl rfl rfl rfl rfl rfl ?_
  refine g_istore_n (pc' := 9) (ls1 := [some (.ref 4), some (.ref 1), some (.ref 25), some (.int r1)]) hc rfl (zlt rfl) rfl rfl ?_
  refine g_iload_n (pc' := 10)  hc rfl rfl rfl ?_
  refine g_if_eq (pc' := 13) hc rfl rfl (fun hx => ?_) (fun hx => ?_)
  · replace h := zwp_t h hx
    refine g_aload_n (pc' := 16)  hc rfl rfl rfl rfl ?_
    refine g_aload_n (pc' := 17)  hc rfl rfl rfl rfl ?_
    refine z_getI (pc' := 20) (v := (I 1 6)) hc rfl rfl rfl sh_1 rfl rfl rfl ?_
    refine z_virt (as := [.int (I 1 6)]) (a := 25) (r := []) hc rfl rfl rfl rfl sh_25 rfl zco_44 rfl rfl rfl ?_
    refine ok_X5_add_25 (zdp hd rfl) (zwp_mono (zwp_bind h) ?_)
    rintro ⟨o2, o3⟩ h
    refine z_po (pc' := 23) (st' := []) (v := none) (L' := [(4, some 5, fun _ => (I 4 5)), (25, some 2, fun _ => o3), (27, none, o2)]) (K' := []) zco_44 rfl rfl rfl rfl rfl rfl rfl rfl ?_
    refine g_aload_n (pc' := 24)  hc rfl rfl rfl rfl ?_
    refine g_iconst (pc' := 25) (v := (0 : Int32)) hc rfl zki_0 rfl ?_
    refine z_putI (pc' := 28) (L' := [(4, some 5, fun _ => (0 : Int32)), (25, some 2, fun _ => o3), (27, none, o2)]) hc rfl rfl rfl sh_4 rfl zft_6_5 rfl (fun h => Bool.noConfusion h) rfl rfl rfl ?_
    refine g_iconst (pc' := 29) (v := (0 : Int32)) hc rfl zki_0 rfl ?_
    replace h := zws h
    exact g_ireturn hc rfl rfl rfl (fun _ => ⟨rfl, rfl⟩) h
  · replace h := zwp_f h hx
    refine g_iload_n (pc' := 14)  hc rfl rfl rfl ?_
    replace h := zws h
    exact g_ireturn hc rfl rfl rfl (fun _ => ⟨rfl, rfl⟩) h
set_option maxRecDepth 4000 in
theorem ok_X6_valueOf_1 {p q : Nat} {I : pI} {J : pJ} {a1 : Int32} {Q : pQ} {d : Nat} (hd : 8 ≤ d) (h : zwp (f_X6_valueOf a1 (I 2) (I 1 4) (I 1 5) (I 1 3)) (fun r => Q (.inl (some (.int r))) (zS p q I [] J []))) : pm_call M cost zext d 54 [.ref 1, .int a1] (pm_st 108 (shp p q) I J) Q := by
  obtain ⟨d, rfl⟩ := zd1 hd rfl
  have hc := pm_call_m (M := M) (cost := cost) zext_m d
  refine z_in (L := []) (K := []) (ls := [some (.ref 1), some (.int a1)]) zmt_54 zco_54 rfl rfl zid_n zid_n ?_
  delta f_X6_valueOf at h
  refine g_aload_n (pc' := 1)  hc rfl rfl rfl rfl ?_
  refine g_ldc_t (pc' := 3)  hc rfl rfl rfl ?_
  refine z_virt (as := [.retAddr 9]) (a := 1) (r := []) hc rfl rfl rfl rfl sh_1 rfl zco_90 rfl rfl rfl ?_
  refine ok_X9_isWord_1 (zdp hd rfl) (zlt rfl) (zwp_mono (zwp_bind h) ?_)
  rintro r1 h
  refine z_po (pc' := 6) (st' := [.int r1]) (v := (some (.int r1))) (L' := []) (K' := []) zco_90 rfl rfl rfl rfl rfl rfl rfl rfl ?_
  refine g_if_eq (pc' := 9) hc rfl rfl (fun hx => ?_) (fun hx => ?_)
  · replace h := zwp_t h hx
    refine g_aload_n (pc' := 12)  hc rfl rfl rfl rfl ?_
    refine g_ldc_t (pc' := 14)  hc rfl rfl rfl ?_
    refine z_virt (as := [.retAddr 6]) (a := 1) (r := []) hc rfl rfl rfl rfl sh_1 rfl zco_90 rfl rfl rfl ?_
    refine ok_X9_isWord_1 (zdp hd rfl) (zlt rfl) (zwp_mono (zwp_bind h) ?_)
    rintro r2 h
    refine z_po (pc' := 17) (st' := [.int r2]) (v := (some (.int r2))) (L' := []) (K' := []) zco_90 rfl rfl rfl rfl rfl rfl rfl rfl ?_
    refine g_if_eq (pc' := 20) hc rfl rfl (fun hx => ?_) (fun hx => ?_)
    · replace h := zwp_t h hx
      refine g_aload_n (pc' := 23)  hc rfl rfl rfl rfl ?_
      refine g_ldc_t (pc' := 25)  hc rfl rfl rfl ?_
      refine z_virt (as := [.retAddr 10]) (a := 1) (r := []) hc rfl rfl rfl rfl sh_1 rfl zco_90 rfl rfl rfl ?_
      refine ok_X9_isWord_1 (zdp hd rfl) (zlt rfl) (zwp_mono (zwp_bind h) ?_)
      rintro r3 h
      refine z_po (pc' := 28) (st' := [.int r3]) (v := (some (.int r3))) (L' := []) (K' := []) zco_90 rfl rfl rfl rfl rfl rfl rfl rfl ?_
      refine g_if_eq (pc' := 31) hc rfl rfl (fun hx => ?_) (fun hx => ?_)
      · replace h := zwp_t h hx
        refine g_aload_n (pc' := 34)  hc rfl rfl rfl rfl ?_
        refine g_ldc_t (pc' := 36)  hc rfl rfl rfl ?_
        refine z_virt (as := [.retAddr 11]) (a := 1) (r := []) hc rfl rfl rfl rfl sh_1 rfl zco_90 rfl rfl rfl ?_
        refine ok_X9_isWord_1 (zdp hd rfl) (zlt rfl) (zwp_mono (zwp_bind h) ?_)
        rintro r4 h
        refine z_po (pc' := 39) (st' := [.int r4]) (v := (some (.int r4))) (L' := []) (K' := []) zco_90 rfl rfl rfl rfl rfl rfl rfl rfl ?_
        refine g_if_eq (pc' := 42) hc rfl rfl (fun hx => ?_) (fun hx => ?_)
        · replace h := zwp_t h hx
          refine g_iload_n (pc' := 45)  hc rfl rfl rfl ?_
          refine g_if_ne (pc' := 48) hc rfl rfl (fun hx => ?_) (fun hx => ?_)
          · replace h := zwp_f h hx
            refine g_iload_n (pc' := 60)  hc rfl rfl rfl ?_
            refine g_if_eq (pc' := 63) hc rfl rfl (fun hx => ?_) (fun hx => ?_)
            · replace h := zwp_t h hx
              refine g_iconst (pc' := 77) (v := (-1 : Int32)) hc rfl zki_m1 rfl ?_
              replace h := zws h
              exact g_ireturn hc rfl rfl rfl (fun _ => ⟨rfl, rfl⟩) h
            · replace h := zwp_f h hx
              refine g_aload_n (pc' := 64)  hc rfl rfl rfl rfl ?_
              refine g_ldc_t (pc' := 66)  hc rfl rfl rfl ?_
              refine z_virt (as := [.retAddr 13]) (a := 1) (r := []) hc rfl rfl rfl rfl sh_1 rfl zco_90 rfl rfl rfl ?_
              refine ok_X9_isWord_1 (zdp hd rfl) (zlt rfl) (zwp_mono (zwp_bind h) ?_)
              rintro r5 h
              refine z_po (pc' := 69) (st' := [.int r5]) (v := (some (.int r5))) (L' := []) (K' := []) zco_90 rfl rfl rfl rfl rfl rfl rfl rfl ?_
              refine g_if_eq (pc' := 72) hc rfl rfl (fun hx => ?_) (fun hx => ?_)
              · replace h := zwp_t h hx
                refine g_iconst (pc' := 77) (v := (-1 : Int32)) hc rfl zki_m1 rfl ?_
                replace h := zws h
                exact g_ireturn hc rfl rfl rfl (fun _ => ⟨rfl, rfl⟩) h
              · replace h := zwp_f h hx
                refine g_iconst (pc' := 73) (v := (5 : Int32)) hc rfl zki_5 rfl ?_
                refine g_goto hc rfl ?_
                replace h := zws h
                exact g_ireturn hc rfl rfl rfl (fun _ => ⟨rfl, rfl⟩) h
          · replace h := zwp_t h hx
            refine g_aload_n (pc' := 49)  hc rfl rfl rfl rfl ?_
            refine g_ldc_t (pc' := 51)  hc rfl rfl rfl ?_
            refine z_virt (as := [.retAddr 12]) (a := 1) (r := []) hc rfl rfl rfl rfl sh_1 rfl zco_90 rfl rfl rfl ?_
            refine ok_X9_isWord_1 (zdp hd rfl) (zlt rfl) (zwp_mono (zwp_bind h) ?_)
            rintro r6 h
            refine z_po (pc' := 54) (st' := [.int r6]) (v := (some (.int r6))) (L' := []) (K' := []) zco_90 rfl rfl rfl rfl rfl rfl rfl rfl ?_
            refine g_if_eq (pc' := 57) hc rfl rfl (fun hx => ?_) (fun hx => ?_)
            · replace h := zwp_t h hx
              refine g_iload_n (pc' := 60)  hc rfl rfl rfl ?_
              refine g_if_eq (pc' := 63) hc rfl rfl (fun hx => ?_) (fun hx => ?_)
              · replace h := zwp_t h hx
                refine g_iconst (pc' := 77) (v := (-1 : Int32)) hc rfl zki_m1 rfl ?_
                replace h := zws h
                exact g_ireturn hc rfl rfl rfl (fun _ => ⟨rfl, rfl⟩) h
              · replace h := zwp_f h hx
                refine g_aload_n (pc' := 64)  hc rfl rfl rfl rfl ?_
                refine g_ldc_t (pc' := 66)  hc rfl rfl rfl ?_
                refine z_virt (as := [.retAddr 13]) (a := 1) (r := []) hc rfl rfl rfl rfl sh_1 rfl zco_90 rfl rfl rfl ?_
                refine ok_X9_isWord_1 (zdp hd rfl) (zlt rfl) (zwp_mono (zwp_bind h) ?_)
                rintro r7 h
                refine z_po (pc' := 69) (st' := [.int r7]) (v := (some (.int r7))) (L' := []) (K' := []) zco_90 rfl rfl rfl rfl rfl rfl rfl rfl ?_
                refine g_if_eq (pc' := 72) hc rfl rfl (fun hx => ?_) (fun hx => ?_)
                · replace h := zwp_t h hx
                  refine g_iconst (pc' := 77) (v := (-1 : Int32)) hc rfl zki_m1 rfl ?_
                  replace h := zws h
                  exact g_ireturn hc rfl rfl rfl (fun _ => ⟨rfl, rfl⟩) h
                · replace h := zwp_f h hx
                  refine g_iconst (pc' := 73) (v := (5 : Int32)) hc rfl zki_5 rfl ?_
                  refine g_goto hc rfl ?_
                  replace h := zws h
                  exact g_ireturn hc rfl rfl rfl (fun _ => ⟨rfl, rfl⟩) h
            · replace h := zwp_f h hx
              refine g_iconst (pc' := 58) (v := (4 : Int32)) hc rfl zki_4 rfl ?_
              replace h := zws h
              exact g_ireturn hc rfl rfl rfl (fun _ => ⟨rfl, rfl⟩) h
        · replace h := zwp_f h hx
          refine g_iconst (pc' := 43) (v := (3 : Int32)) hc rfl zki_3 rfl ?_
          replace h := zws h
          exact g_ireturn hc rfl rfl rfl (fun _ => ⟨rfl, rfl⟩) h
      · replace h := zwp_f h hx
        refine g_iconst (pc' := 32) (v := (2 : Int32)) hc rfl zki_2 rfl ?_
        replace h := zws h
        exact g_ireturn hc rfl rfl rfl (fun _ => ⟨rfl, rfl⟩) h
    · replace h := zwp_f h hx
      refine g_iconst (pc' := 21) (v := (1 : Int32)) hc rfl zki_1 rfl ?_
      replace h := zws h
      exact g_ireturn hc rfl rfl rfl (fun _ => ⟨rfl, rfl⟩) h
  · replace h := zwp_f h hx
    refine g_iconst (pc' := 10) (v := (0 : Int32)) hc rfl zki_0 rfl ?_
    replace h := zws h
    exact g_ireturn hc rfl rfl rfl (fun _ => ⟨rfl, rfl⟩) h
set_option maxRecDepth 4000 in
theorem ok_X6_readWord_4_1_25 {p q : Nat} {I : pI} {J : pJ} {a3 : Int32} {Q : pQ} {d : Nat} (hd : 8 ≤ d) (h : zwp (f_X6_readWord a3 (I 4 4) (I 4 3) (I 4 5) (I 27) (I 25 2) (I 2) (I 1 4) (I 1 5) (I 1 3) (I 5) (I 4 1)) (fun w => match w with | (r, o0, o1, o2, o3, o4, o5) => Q (.inl (some (.int r))) (zS p q I [(4, some 1, fun _ => o5), (4, some 3, fun _ => o0), (4, some 5, fun _ => o1), (5, none, o4), (25, some 2, fun _ => o3), (27, none, o2)] J []))) : pm_call M cost zext d 53 [.ref 4, .ref 1, .ref 25, .int a3] (pm_st 108 (shp p q) I J) Q := by
  obtain ⟨d, rfl⟩ := zd1 hd rfl
  have hc := pm_call_m (M := M) (cost := cost) zext_m d
  refine z_in (L := [(4, some 1, fun _ => (I 4 1)), (4, some 3, fun _ => (I 4 3)), (4, some 5, fun _ => (I 4 5)), (5, none, (I 5)), (25, some 2, fun _ => (I 25 2)), (27, none, (I 27))]) (K := []) (ls := [some (.ref 4), some (.ref 1), some (.ref 25), some (.int a3)]) zmt_53 zco_53 rfl rfl (zid_s (zid_s (zid_s (zid_a (zid_s (zid_a zid_n)))))) zid_n ?_
  delta f_X6_readWord at h
  refine g_aload_n (pc' := 1)  hc rfl rfl rfl rfl ?_
  refine z_getI (pc' := 4) (v := (I 4 4)) hc rfl rfl rfl sh_4 rfl rfl rfl ?_
  refine g_if_eq (pc' := 7) hc rfl rfl (fun hx => ?_) (fun hx => ?_)
  · replace h := zwp_t h hx
    refine g_iload_n (pc' := 46)  hc rfl rfl rfl ?_
    refine g_iconst (pc' := 47) (v := (-1 : Int32)) hc rfl zki_m1 rfl ?_
    refine g_icmp_ne (pc' := 50) hc rfl rfl (fun hx => ?_) (fun hx => ?_)
    · replace h := zwp_f h hx
      refine g_aload_n (pc' := 53)  hc rfl rfl rfl rfl ?_
      refine g_iconst (pc' := 54) (v := (-1 : Int32)) hc rfl zki_m1 rfl ?_
      refine g_iload_n (pc' := 55)  hc rfl rfl rfl ?_
      refine g_isub (pc' := 56)  hc rfl rfl ?_
      refine z_virt (as := [.int ((-1 : Int32) - a3)]) (a := 25) (r := []) hc rfl rfl rfl rfl sh_25 rfl zco_44 rfl rfl rfl ?_
      refine ok_X5_add_25 (zdp hd rfl) (zwp_mono (zwp_bind h) ?_)
      rintro ⟨o1, o2⟩ h
      refine z_po (pc' := 59) (st' := []) (v := none) (L' := [(4, some 1, fun _ => (I 4 1)), (4, some 3, fun _ => (I 4 3)), (4, some 5, fun _ => (I 4 5)), (5, none, (I 5)), (25, some 2, fun _ => o2), (27, none, o1)]) (K' := []) zco_44 rfl rfl rfl rfl rfl rfl rfl rfl ?_
      refine g_aload_n (pc' := 60)  hc rfl rfl rfl rfl ?_
      refine g_iconst (pc' := 61) (v := (0 : Int32)) hc rfl zki_0 rfl ?_
      refine z_putI (pc' := 64) (L' := [(4, some 1, fun _ => (I 4 1)), (4, some 3, fun _ => (I 4 3)), (4, some 5, fun _ => (0 : Int32)), (5, none, (I 5)), (25, some 2, fun _ => o2), (27, none, o1)]) hc rfl rfl rfl sh_4 rfl zft_6_5 rfl (fun h => Bool.noConfusion h) rfl rfl rfl ?_
      refine g_iconst (pc' := 65) (v := (0 : Int32)) hc rfl zki_0 rfl ?_
      replace h := zws h
      exact g_ireturn hc rfl rfl rfl (fun _ => ⟨rfl, rfl⟩) h
    · replace h := zwp_t h hx
      refine g_iconst (pc' := 51) (v := (3 : Int32)) hc rfl zki_3 rfl ?_
      replace h := zws h
      exact g_ireturn hc rfl rfl rfl (fun _ => ⟨rfl, rfl⟩) h
  · replace h := zwp_f h hx
    refine g_aload_n (pc' := 8)  hc rfl rfl rfl rfl ?_
    refine g_ldc_t (pc' := 10)  hc rfl rfl rfl ?_
    refine z_virt (as := [.retAddr 14]) (a := 1) (r := []) hc rfl rfl rfl rfl sh_1 rfl zco_90 rfl rfl rfl ?_
    refine ok_X9_isWord_1 (zdp hd rfl) (zlt rfl) (zwp_mono (zwp_bind h) ?_)
    rintro r3 h
    refine z_po (pc' := 13) (st' := [.int r3]) (v := (some (.int r3))) (L' := [(4, some 1, fun _ => (I 4 1)), (4, some 3, fun _ => (I 4 3)), (4, some 5, fun _ => (I 4 5)), (5, none, (I 5)), (25, some 2, fun _ => (I 25 2)), (27, none, (I 27))]) (K' := []) zco_90 rfl rfl rfl rfl rfl rfl rfl rfl ?_
    refine g_if_eq (pc' := 16) hc rfl rfl (fun hx => ?_) (fun hx => ?_)
    · replace h := zwp_t h hx
      refine g_iload_n (pc' := 46)  hc rfl rfl rfl ?_
      refine g_iconst (pc' := 47) (v := (-1 : Int32)) hc rfl zki_m1 rfl ?_
      refine g_icmp_ne (pc' := 50) hc rfl rfl (fun hx => ?_) (fun hx => ?_)
      · replace h := zwp_f h hx
        refine g_aload_n (pc' := 53)  hc rfl rfl rfl rfl ?_
        refine g_iconst (pc' := 54) (v := (-1 : Int32)) hc rfl zki_m1 rfl ?_
        refine g_iload_n (pc' := 55)  hc rfl rfl rfl ?_
        refine g_isub (pc' := 56)  hc rfl rfl ?_
        refine z_virt (as := [.int ((-1 : Int32) - a3)]) (a := 25) (r := []) hc rfl rfl rfl rfl sh_25 rfl zco_44 rfl rfl rfl ?_
        refine ok_X5_add_25 (zdp hd rfl) (zwp_mono (zwp_bind h) ?_)
        rintro ⟨o4, o5⟩ h
        refine z_po (pc' := 59) (st' := []) (v := none) (L' := [(4, some 1, fun _ => (I 4 1)), (4, some 3, fun _ => (I 4 3)), (4, some 5, fun _ => (I 4 5)), (5, none, (I 5)), (25, some 2, fun _ => o5), (27, none, o4)]) (K' := []) zco_44 rfl rfl rfl rfl rfl rfl rfl rfl ?_
        refine g_aload_n (pc' := 60)  hc rfl rfl rfl rfl ?_
        refine g_iconst (pc' := 61) (v := (0 : Int32)) hc rfl zki_0 rfl ?_
        refine z_putI (pc' := 64) (L' := [(4, some 1, fun _ => (I 4 1)), (4, some 3, fun _ => (I 4 3)), (4, some 5, fun _ => (0 : Int32)), (5, none, (I 5)), (25, some 2, fun _ => o5), (27, none, o4)]) hc rfl rfl rfl sh_4 rfl zft_6_5 rfl (fun h => Bool.noConfusion h) rfl rfl rfl ?_
        refine g_iconst (pc' := 65) (v := (0 : Int32)) hc rfl zki_0 rfl ?_
        replace h := zws h
        exact g_ireturn hc rfl rfl rfl (fun _ => ⟨rfl, rfl⟩) h
      · replace h := zwp_t h hx
        refine g_iconst (pc' := 51) (v := (3 : Int32)) hc rfl zki_3 rfl ?_
        replace h := zws h
        exact g_ireturn hc rfl rfl rfl (fun _ => ⟨rfl, rfl⟩) h
    · replace h := zwp_f h hx
      refine g_aload_n (pc' := 17)  hc rfl rfl rfl rfl ?_
      refine z_getI (pc' := 20) (v := (I 4 3)) hc rfl rfl rfl sh_4 rfl rfl rfl ?_
      refine g_bipush (pc' := 22) (v := (6 : Int32)) hc rfl zkb_6 rfl ?_
      refine g_icmp_lt (pc' := 25) hc rfl rfl (fun hx => ?_) (fun hx => ?_)
      · replace h := zwp_t h hx
        refine g_aload_n (pc' := 28)  hc rfl rfl rfl rfl ?_
        refine g_bipush (pc' := 30) (v := (-13 : Int32)) hc rfl zkb_m13 rfl ?_
        refine z_virt (as := [.int (-13 : Int32)]) (a := 4) (r := []) hc rfl rfl rfl rfl sh_4 rfl zco_58 rfl rfl rfl ?_
        refine ok_X6_push_4 (zdp hd rfl) (zwp_mono (zwp_bind h) ?_)
        rintro ⟨o6, o7⟩ h
        refine z_po (pc' := 33) (st' := []) (v := none) (L' := [(4, some 1, fun _ => o7), (4, some 3, fun _ => (I 4 3)), (4, some 5, fun _ => (I 4 5)), (5, none, o6), (25, some 2, fun _ => (I 25 2)), (27, none, (I 27))]) (K' := []) zco_58 rfl rfl rfl rfl rfl rfl rfl rfl ?_
        refine g_aload_n (pc' := 34)  hc rfl rfl rfl rfl ?_
        refine g_dup (pc' := 35)  hc rfl rfl rfl ?_
        refine z_getI (pc' := 38) (v := (I 4 3)) hc rfl rfl rfl sh_4 rfl rfl rfl ?_
        refine g_iconst (pc' := 39) (v := (1 : Int32)) hc rfl zki_1 rfl ?_
        refine g_iadd (pc' := 40)  hc rfl rfl ?_
        refine z_putI (pc' := 43) (L' := [(4, some 1, fun _ => o7), (4, some 3, fun _ => (((I 4 3)) + (1 : Int32))), (4, some 5, fun _ => (I 4 5)), (5, none, o6), (25, some 2, fun _ => (I 25 2)), (27, none, (I 27))]) hc rfl rfl rfl sh_4 rfl zft_6_3 rfl (fun h => Bool.noConfusion h) rfl rfl rfl ?_
        refine g_iconst (pc' := 44) (v := (0 : Int32)) hc rfl zki_0 rfl ?_
        replace h := zws h
        exact g_ireturn hc rfl rfl rfl (fun _ => ⟨rfl, rfl⟩) h
      · replace h := zwp_f h hx
        refine g_iconst (pc' := 26) (v := (2 : Int32)) hc rfl zki_2 rfl ?_
        replace h := zws h
        exact g_ireturn hc rfl rfl rfl (fun _ => ⟨rfl, rfl⟩) h
set_option maxRecDepth 4000 in
theorem ok_X6_readPart_4_1_25 {p q : Nat} {I : pI} {J : pJ} {a3 : Int32} {Q : pQ} {d : Nat} (hd : 9 ≤ d) (h : zwp (f_X6_readPart a3 (I 4 4) (I 4 2) (I 4 3) (I 4 5) (I 27) (I 25 2) (I 2) (I 1 4) (I 1 5) (I 1 6) (I 1 3) (I 5) (I 4 1)) (fun w => match w with | (r, o0, o1, o2, o3, o4, o5, o6, o7) => Q (.inl (some (.int r))) (zS p q I [(4, some 1, fun _ => o7), (4, some 2, fun _ => o1), (4, some 3, fun _ => o2), (4, some 4, fun _ => o0), (4, some 5, fun _ => o3), (5, none, o6), (25, some 2, fun _ => o5), (27, none, o4)] J []))) : pm_call M cost zext d 51 [.ref 4, .ref 1, .ref 25, .int a3] (pm_st 108 (shp p q) I J) Q := by
  obtain ⟨d, rfl⟩ := zd1 hd rfl
  have hc := pm_call_m (M := M) (cost := cost) zext_m d
  refine z_in (L := [(4, some 1, fun _ => (I 4 1)), (4, some 2, fun _ => (I 4 2)), (4, some 3, fun _ => (I 4 3)), (4, some 4, fun _ => (I 4 4)), (4, some 5, fun _ => (I 4 5)), (5, none, (I 5)), (25, some 2, fun _ => (I 25 2)), (27, none, (I 27))]) (K := []) (ls := [some (.ref 4), some (.ref 1), some (.ref 25), some (.int a3), none]) zmt_51 zco_51 rfl rfl (zid_s (zid_s (zid_s (zid_s (zid_s (zid_a (zid_s (zid_a zid_n)))))))) zid_n ?_
  delta f_X6_readPart at h
  refine g_aload_n (pc' := 1)  hc rfl rfl rfl rfl ?_
  refine g_bipush (pc' := 3) (v := (40 : Int32)) hc rfl zkb_40 rfl ?_
  refine z_virt (as := [.int (40 : Int32)]) (a := 1) (r := []) hc rfl rfl rfl rfl sh_1 rfl zco_88 rfl rfl rfl ?_
  refine ok_X9_isSign_1 (zdp hd rfl) (zwp_mono (zwp_bind h) ?_)
  rintro r1 h
  refine z_po (pc' := 6) (st' := [.int r1]) (v := (some (.int r1))) (L' := [(4, some 1, fun _ => (I 4 1)), (4, some 2, fun _ => (I 4 2)), (4, some 3, fun _ => (I 4 3)), (4, some 4, fun _ => (I 4 4)), (4, some 5, fun _ => (I 4 5)), (5, none, (I 5)), (25, some 2, fun _ => (I 25 2)), (27, none, (I 27))]) (K' := []) zco_88 rfl rfl rfl rfl rfl rfl rfl rfl ?_
  refine g_istore (pc' := 8) (ls1 := [some (.ref 4), some (.ref 1), some (.ref 25), some (.int a3), some (.int r1)]) hc rfl (zlt rfl) rfl rfl ?_
  refine g_iload (pc' := 10)  hc rfl rfl rfl ?_
  refine g_if_ne (pc' := 13) hc rfl rfl (fun hx => ?_) (fun hx => ?_)
  · replace h := zwp_f h hx
    refine g_aload_n (pc' := 32)  hc rfl rfl rfl rfl ?_
    refine z_getI (pc' := 35) (v := (I 4 2)) hc rfl rfl rfl sh_4 rfl rfl rfl ?_
    refine g_bipush (pc' := 37) (v := (6 : Int32)) hc rfl zkb_6 rfl ?_
    refine g_icmp_lt (pc' := 40) hc rfl rfl (fun hx => ?_) (fun hx => ?_)
    · replace h := zwp_t h hx
      refine g_iload (pc' := 44)  hc rfl rfl rfl ?_
      refine g_if_eq (pc' := 47) hc rfl rfl (fun hx => ?_) (fun hx => ?_)
      · replace h := zwp_t h hx
        refine g_aload_n (pc' := 71)  hc rfl rfl rfl rfl ?_
        refine z_getI (pc' := 74) (v := (I 1 5)) hc rfl rfl rfl sh_1 rfl rfl rfl ?_
        refine g_iconst (pc' := 75) (v := (2 : Int32)) hc rfl zki_2 rfl ?_
        refine g_icmp_ne (pc' := 78) hc rfl rfl (fun hx => ?_) (fun hx => ?_)
        · replace h := zwp_f h hx
          refine g_aload_n (pc' := 88)  hc rfl rfl rfl rfl ?_
          refine g_aload_n (pc' := 89)  hc rfl rfl rfl rfl ?_
          refine g_aload_n (pc' := 90)  hc rfl rfl rfl rfl ?_
          refine g_aload_n (pc' := 91)  hc rfl rfl rfl rfl ?_
          refine g_iload_n (pc' := 92)  hc rfl rfl rfl ?_
          refine z_stat (as := [.ref 1, .int a3]) (r := [.ref 25, .ref 1, .ref 4]) hc rfl rfl rfl rfl zco_54 rfl rfl rfl ?_
          refine ok_X6_valueOf_1 (zdp hd rfl) (zwp_mono (zwp_bind h) ?_)
          rintro r2 h
          refine z_po (pc' := 95) (st' := [.int r2, .ref 25, .ref 1, .ref 4]) (v := (some (.int r2))) (L' := [(4, some 1, fun _ => (I 4 1)), (4, some 2, fun _ => (I 4 2)), (4, some 3, fun _ => (I 4 3)), (4, some 4, fun _ => (I 4 4)), (4, some 5, fun _ => (I 4 5)), (5, none, (I 5)), (25, some 2, fun _ => (I 25 2)), (27, none, (I 27))]) (K' := []) zco_54 rfl rfl rfl rfl rfl rfl rfl rfl ?_
          refine z_virt (as := [.ref 1, .ref 25, .int r2]) (a := 4) (r := []) hc rfl rfl rfl rfl sh_4 rfl zco_53 rfl rfl rfl ?_
          refine ok_X6_readWord_4_1_25 (zdp hd rfl) (zwp_mono (zwp_bind h) ?_)
          rintro ⟨r9, o3, o4, o5, o6, o7, o8⟩ h
          refine z_po (pc' := 98) (st' := [.int r9]) (v := (some (.int r9))) (L' := [(4, some 1, fun _ => o8), (4, some 2, fun _ => (I 4 2)), (4, some 3, fun _ => o3), (4, some 4, fun _ => (I 4 4)), (4, some 5, fun _ => o4), (5, none, o7), (25, some 2, fun _ => o6), (27, none, o5)]) (K' := []) zco_53 rfl rfl rfl rfl rfl rfl rfl rfl ?_
          replace h := zws h
          exact g_ireturn hc rfl rfl rfl (fun _ => ⟨rfl, rfl⟩) h
        · replace h := zwp_t h hx
          refine g_aload_n (pc' := 79)  hc rfl rfl rfl rfl ?_
          refine g_aload_n (pc' := 80)  hc rfl rfl rfl rfl ?_
          refine g_aload_n (pc' := 81)  hc rfl rfl rfl rfl ?_
          refine z_virt (as := [.ref 1, .ref 25]) (a := 4) (r := []) hc rfl rfl rfl rfl sh_4 rfl zco_52 rfl rfl rfl ?_
          refine ok_X6_readNumber_4_1_25 (zdp hd rfl) (zwp_mono (zwp_bind h) ?_)
          rintro ⟨r13, o10, o11, o12⟩ h
          refine z_po (pc' := 84) (st' := [.int r13]) (v := (some (.int r13))) (L' := [(4, some 1, fun _ => (I 4 1)), (4, some 2, fun _ => (I 4 2)), (4, some 3, fun _ => (I 4 3)), (4, some 4, fun _ => (I 4 4)), (4, some 5, fun _ => o10), (5, none, (I 5)), (25, some 2, fun _ => o12), (27, none, o11)]) (K' := []) zco_52 rfl rfl rfl rfl rfl rfl rfl rfl ?_
          refine g_goto hc rfl ?_
          replace h := zws h
          exact g_ireturn hc rfl rfl rfl (fun _ => ⟨rfl, rfl⟩) h
      · replace h := zwp_f h hx
        refine g_aload_n (pc' := 48)  hc rfl rfl rfl rfl ?_
        refine g_bipush (pc' := 50) (v := (-20 : Int32)) hc rfl zkb_m20 rfl ?_
        refine z_virt (as := [.int (-20 : Int32)]) (a := 4) (r := []) hc rfl rfl rfl rfl sh_4 rfl zco_58 rfl rfl rfl ?_
        refine ok_X6_push_4 (zdp hd rfl) (zwp_mono (zwp_bind h) ?_)
        rintro ⟨o14, o15⟩ h
        refine z_po (pc' := 53) (st' := []) (v := none) (L' := [(4, some 1, fun _ => o15), (4, some 2, fun _ => (I 4 2)), (4, some 3, fun _ => (I 4 3)), (4, some 4, fun _ => (I 4 4)), (4, some 5, fun _ => (I 4 5)), (5, none, o14), (25, some 2, fun _ => (I 25 2)), (27, none, (I 27))]) (K' := []) zco_58 rfl rfl rfl rfl rfl rfl rfl rfl ?_
        refine g_aload_n (pc' := 54)  hc rfl rfl rfl rfl ?_
        refine g_dup (pc' := 55)  hc rfl rfl rfl ?_
        refine z_getI (pc' := 58) (v := (I 4 2)) hc rfl rfl rfl sh_4 rfl rfl rfl ?_
        refine g_iconst (pc' := 59) (v := (1 : Int32)) hc rfl zki_1 rfl ?_
        refine g_iadd (pc' := 60)  hc rfl rfl ?_
        refine z_putI (pc' := 63) (L' := [(4, some 1, fun _ => o15), (4, some 2, fun _ => (((I 4 2)) + (1 : Int32))), (4, some 3, fun _ => (I 4 3)), (4, some 4, fun _ => (I 4 4)), (4, some 5, fun _ => (I 4 5)), (5, none, o14), (25, some 2, fun _ => (I 25 2)), (27, none, (I 27))]) hc rfl rfl rfl sh_4 rfl zft_6_2 rfl (fun h => Bool.noConfusion h) rfl rfl rfl ?_
        refine g_aload_n (pc' := 64)  hc rfl rfl rfl rfl ?_
        refine g_iconst (pc' := 65) (v := (1 : Int32)) hc rfl zki_1 rfl ?_
        refine z_virt (as := [.int (1 : Int32)]) (a := 4) (r := []) hc rfl rfl rfl rfl sh_4 rfl zco_50 rfl rfl rfl ?_
        refine ok_X6_beginPart_4 (zdp hd rfl) (zwp_mono (zwp_bind h) ?_)
        rintro ⟨o16, o17, o18⟩ h
        refine z_po (pc' := 68) (st' := []) (v := none) (L' := [(4, some 1, fun _ => o15), (4, some 2, fun _ => (((I 4 2)) + (1 : Int32))), (4, some 3, fun _ => o17), (4, some 4, fun _ => o16), (4, some 5, fun _ => o18), (5, none, o14), (25, some 2, fun _ => (I 25 2)), (27, none, (I 27))]) (K' := []) zco_50 rfl rfl rfl rfl rfl rfl rfl rfl ?_
        refine g_iconst (pc' := 69) (v := (0 : Int32)) hc rfl zki_0 rfl ?_
        replace h := zws h
        exact g_ireturn hc rfl rfl rfl (fun _ => ⟨rfl, rfl⟩) h
    · replace h := zwp_f h hx
      refine g_iconst (pc' := 41) (v := (2 : Int32)) hc rfl zki_2 rfl ?_
      replace h := zws h
      exact g_ireturn hc rfl rfl rfl (fun _ => ⟨rfl, rfl⟩) h
  · replace h := zwp_t h hx
    refine g_aload_n (pc' := 14)  hc rfl rfl rfl rfl ?_
    refine z_getI (pc' := 17) (v := (I 1 5)) hc rfl rfl rfl sh_1 rfl rfl rfl ?_
    refine g_iconst (pc' := 18) (v := (2 : Int32)) hc rfl zki_2 rfl ?_
    refine g_icmp_eq (pc' := 21) hc rfl rfl (fun hx => ?_) (fun hx => ?_)
    · replace h := zwp_t h hx
      refine g_aload_n (pc' := 32)  hc rfl rfl rfl rfl ?_
      refine z_getI (pc' := 35) (v := (I 4 2)) hc rfl rfl rfl sh_4 rfl rfl rfl ?_
      refine g_bipush (pc' := 37) (v := (6 : Int32)) hc rfl zkb_6 rfl ?_
      refine g_icmp_lt (pc' := 40) hc rfl rfl (fun hx => ?_) (fun hx => ?_)
      · replace h := zwp_t h hx
        refine g_iload (pc' := 44)  hc rfl rfl rfl ?_
        refine g_if_eq (pc' := 47) hc rfl rfl (fun hx => ?_) (fun hx => ?_)
        · replace h := zwp_t h hx
          refine g_aload_n (pc' := 71)  hc rfl rfl rfl rfl ?_
          refine z_getI (pc' := 74) (v := (I 1 5)) hc rfl rfl rfl sh_1 rfl rfl rfl ?_
          refine g_iconst (pc' := 75) (v := (2 : Int32)) hc rfl zki_2 rfl ?_
          refine g_icmp_ne (pc' := 78) hc rfl rfl (fun hx => ?_) (fun hx => ?_)
          · replace h := zwp_f h hx
            refine g_aload_n (pc' := 88)  hc rfl rfl rfl rfl ?_
            refine g_aload_n (pc' := 89)  hc rfl rfl rfl rfl ?_
            refine g_aload_n (pc' := 90)  hc rfl rfl rfl rfl ?_
            refine g_aload_n (pc' := 91)  hc rfl rfl rfl rfl ?_
            refine g_iload_n (pc' := 92)  hc rfl rfl rfl ?_
            refine z_stat (as := [.ref 1, .int a3]) (r := [.ref 25, .ref 1, .ref 4]) hc rfl rfl rfl rfl zco_54 rfl rfl rfl ?_
            refine ok_X6_valueOf_1 (zdp hd rfl) (zwp_mono (zwp_bind h) ?_)
            rintro r19 h
            refine z_po (pc' := 95) (st' := [.int r19, .ref 25, .ref 1, .ref 4]) (v := (some (.int r19))) (L' := [(4, some 1, fun _ => (I 4 1)), (4, some 2, fun _ => (I 4 2)), (4, some 3, fun _ => (I 4 3)), (4, some 4, fun _ => (I 4 4)), (4, some 5, fun _ => (I 4 5)), (5, none, (I 5)), (25, some 2, fun _ => (I 25 2)), (27, none, (I 27))]) (K' := []) zco_54 rfl rfl rfl rfl rfl rfl rfl rfl ?_
            refine z_virt (as := [.ref 1, .ref 25, .int r19]) (a := 4) (r := []) hc rfl rfl rfl rfl sh_4 rfl zco_53 rfl rfl rfl ?_
            refine ok_X6_readWord_4_1_25 (zdp hd rfl) (zwp_mono (zwp_bind h) ?_)
            rintro ⟨r26, o20, o21, o22, o23, o24, o25⟩ h
            refine z_po (pc' := 98) (st' := [.int r26]) (v := (some (.int r26))) (L' := [(4, some 1, fun _ => o25), (4, some 2, fun _ => (I 4 2)), (4, some 3, fun _ => o20), (4, some 4, fun _ => (I 4 4)), (4, some 5, fun _ => o21), (5, none, o24), (25, some 2, fun _ => o23), (27, none, o22)]) (K' := []) zco_53 rfl rfl rfl rfl rfl rfl rfl rfl ?_
            replace h := zws h
            exact g_ireturn hc rfl rfl rfl (fun _ => ⟨rfl, rfl⟩) h
          · replace h := zwp_t h hx
            refine g_aload_n (pc' := 79)  hc rfl rfl rfl rfl ?_
            refine g_aload_n (pc' := 80)  hc rfl rfl rfl rfl ?_
            refine g_aload_n (pc' := 81)  hc rfl rfl rfl rfl ?_
            refine z_virt (as := [.ref 1, .ref 25]) (a := 4) (r := []) hc rfl rfl rfl rfl sh_4 rfl zco_52 rfl rfl rfl ?_
            refine ok_X6_readNumber_4_1_25 (zdp hd rfl) (zwp_mono (zwp_bind h) ?_)
            rintro ⟨r30, o27, o28, o29⟩ h
            refine z_po (pc' := 84) (st' := [.int r30]) (v := (some (.int r30))) (L' := [(4, some 1, fun _ => (I 4 1)), (4, some 2, fun _ => (I 4 2)), (4, some 3, fun _ => (I 4 3)), (4, some 4, fun _ => (I 4 4)), (4, some 5, fun _ => o27), (5, none, (I 5)), (25, some 2, fun _ => o29), (27, none, o28)]) (K' := []) zco_52 rfl rfl rfl rfl rfl rfl rfl rfl ?_
            refine g_goto hc rfl ?_
            replace h := zws h
            exact g_ireturn hc rfl rfl rfl (fun _ => ⟨rfl, rfl⟩) h
        · replace h := zwp_f h hx
          refine g_aload_n (pc' := 48)  hc rfl rfl rfl rfl ?_
          refine g_bipush (pc' := 50) (v := (-20 : Int32)) hc rfl zkb_m20 rfl ?_
          refine z_virt (as := [.int (-20 : Int32)]) (a := 4) (r := []) hc rfl rfl rfl rfl sh_4 rfl zco_58 rfl rfl rfl ?_
          refine ok_X6_push_4 (zdp hd rfl) (zwp_mono (zwp_bind h) ?_)
          rintro ⟨o31, o32⟩ h
          refine z_po (pc' := 53) (st' := []) (v := none) (L' := [(4, some 1, fun _ => o32), (4, some 2, fun _ => (I 4 2)), (4, some 3, fun _ => (I 4 3)), (4, some 4, fun _ => (I 4 4)), (4, some 5, fun _ => (I 4 5)), (5, none, o31), (25, some 2, fun _ => (I 25 2)), (27, none, (I 27))]) (K' := []) zco_58 rfl rfl rfl rfl rfl rfl rfl rfl ?_
          refine g_aload_n (pc' := 54)  hc rfl rfl rfl rfl ?_
          refine g_dup (pc' := 55)  hc rfl rfl rfl ?_
          refine z_getI (pc' := 58) (v := (I 4 2)) hc rfl rfl rfl sh_4 rfl rfl rfl ?_
          refine g_iconst (pc' := 59) (v := (1 : Int32)) hc rfl zki_1 rfl ?_
          refine g_iadd (pc' := 60)  hc rfl rfl ?_
          refine z_putI (pc' := 63) (L' := [(4, some 1, fun _ => o32), (4, some 2, fun _ => (((I 4 2)) + (1 : Int32))), (4, some 3, fun _ => (I 4 3)), (4, some 4, fun _ => (I 4 4)), (4, some 5, fun _ => (I 4 5)), (5, none, o31), (25, some 2, fun _ => (I 25 2)), (27, none, (I 27))]) hc rfl rfl rfl sh_4 rfl zft_6_2 rfl (fun h => Bool.noConfusion h) rfl rfl rfl ?_
          refine g_aload_n (pc' := 64)  hc rfl rfl rfl rfl ?_
          refine g_iconst (pc' := 65) (v := (1 : Int32)) hc rfl zki_1 rfl ?_
          refine z_virt (as := [.int (1 : Int32)]) (a := 4) (r := []) hc rfl rfl rfl rfl sh_4 rfl zco_50 rfl rfl rfl ?_
          refine ok_X6_beginPart_4 (zdp hd rfl) (zwp_mono (zwp_bind h) ?_)
          rintro ⟨o33, o34, o35⟩ h
          refine z_po (pc' := 68) (st' := []) (v := none) (L' := [(4, some 1, fun _ => o32), (4, some 2, fun _ => (((I 4 2)) + (1 : Int32))), (4, some 3, fun _ => o34), (4, some 4, fun _ => o33), (4, some 5, fun _ => o35), (5, none, o31), (25, some 2, fun _ => (I 25 2)), (27, none, (I 27))]) (K' := []) zco_50 rfl rfl rfl rfl rfl rfl rfl rfl ?_
          refine g_iconst (pc' := 69) (v := (0 : Int32)) hc rfl zki_0 rfl ?_
          replace h := zws h
          exact g_ireturn hc rfl rfl rfl (fun _ => ⟨rfl, rfl⟩) h
      · replace h := zwp_f h hx
        refine g_iconst (pc' := 41) (v := (2 : Int32)) hc rfl zki_2 rfl ?_
        replace h := zws h
        exact g_ireturn hc rfl rfl rfl (fun _ => ⟨rfl, rfl⟩) h
    · replace h := zwp_f h hx
      refine g_aload_n (pc' := 22)  hc rfl rfl rfl rfl ?_
      refine z_getI (pc' := 25) (v := (I 1 5)) hc rfl rfl rfl sh_1 rfl rfl rfl ?_
      refine g_iconst (pc' := 26) (v := (1 : Int32)) hc rfl zki_1 rfl ?_
      refine g_icmp_eq (pc' := 29) hc rfl rfl (fun hx => ?_) (fun hx => ?_)
      · replace h := zwp_t h hx
        refine g_aload_n (pc' := 32)  hc rfl rfl rfl rfl ?_
        refine z_getI (pc' := 35) (v := (I 4 2)) hc rfl rfl rfl sh_4 rfl rfl rfl ?_
        refine g_bipush (pc' := 37) (v := (6 : Int32)) hc rfl zkb_6 rfl ?_
        refine g_icmp_lt (pc' := 40) hc rfl rfl (fun hx => ?_) (fun hx => ?_)
        · replace h := zwp_t h hx
          refine g_iload (pc' := 44)  hc rfl rfl rfl ?_
          refine g_if_eq (pc' := 47) hc rfl rfl (fun hx => ?_) (fun hx => ?_)
          · replace h := zwp_t h hx
            refine g_aload_n (pc' := 71)  hc rfl rfl rfl rfl ?_
            refine z_getI (pc' := 74) (v := (I 1 5)) hc rfl rfl rfl sh_1 rfl rfl rfl ?_
            refine g_iconst (pc' := 75) (v := (2 : Int32)) hc rfl zki_2 rfl ?_
            refine g_icmp_ne (pc' := 78) hc rfl rfl (fun hx => ?_) (fun hx => ?_)
            · replace h := zwp_f h hx
              refine g_aload_n (pc' := 88)  hc rfl rfl rfl rfl ?_
              refine g_aload_n (pc' := 89)  hc rfl rfl rfl rfl ?_
              refine g_aload_n (pc' := 90)  hc rfl rfl rfl rfl ?_
              refine g_aload_n (pc' := 91)  hc rfl rfl rfl rfl ?_
              refine g_iload_n (pc' := 92)  hc rfl rfl rfl ?_
              refine z_stat (as := [.ref 1, .int a3]) (r := [.ref 25, .ref 1, .ref 4]) hc rfl rfl rfl rfl zco_54 rfl rfl rfl ?_
              refine ok_X6_valueOf_1 (zdp hd rfl) (zwp_mono (zwp_bind h) ?_)
              rintro r36 h
              refine z_po (pc' := 95) (st' := [.int r36, .ref 25, .ref 1, .ref 4]) (v := (some (.int r36))) (L' := [(4, some 1, fun _ => (I 4 1)), (4, some 2, fun _ => (I 4 2)), (4, some 3, fun _ => (I 4 3)), (4, some 4, fun _ => (I 4 4)), (4, some 5, fun _ => (I 4 5)), (5, none, (I 5)), (25, some 2, fun _ => (I 25 2)), (27, none, (I 27))]) (K' := []) zco_54 rfl rfl rfl rfl rfl rfl rfl rfl ?_
              refine z_virt (as := [.ref 1, .ref 25, .int r36]) (a := 4) (r := []) hc rfl rfl rfl rfl sh_4 rfl zco_53 rfl rfl rfl ?_
              refine ok_X6_readWord_4_1_25 (zdp hd rfl) (zwp_mono (zwp_bind h) ?_)
              rintro ⟨r43, o37, o38, o39, o40, o41, o42⟩ h
              refine z_po (pc' := 98) (st' := [.int r43]) (v := (some (.int r43))) (L' := [(4, some 1, fun _ => o42), (4, some 2, fun _ => (I 4 2)), (4, some 3, fun _ => o37), (4, some 4, fun _ => (I 4 4)), (4, some 5, fun _ => o38), (5, none, o41), (25, some 2, fun _ => o40), (27, none, o39)]) (K' := []) zco_53 rfl rfl rfl rfl rfl rfl rfl rfl ?_
              replace h := zws h
              exact g_ireturn hc rfl rfl rfl (fun _ => ⟨rfl, rfl⟩) h
            · replace h := zwp_t h hx
              refine g_aload_n (pc' := 79)  hc rfl rfl rfl rfl ?_
              refine g_aload_n (pc' := 80)  hc rfl rfl rfl rfl ?_
              refine g_aload_n (pc' := 81)  hc rfl rfl rfl rfl ?_
              refine z_virt (as := [.ref 1, .ref 25]) (a := 4) (r := []) hc rfl rfl rfl rfl sh_4 rfl zco_52 rfl rfl rfl ?_
              refine ok_X6_readNumber_4_1_25 (zdp hd rfl) (zwp_mono (zwp_bind h) ?_)
              rintro ⟨r47, o44, o45, o46⟩ h
              refine z_po (pc' := 84) (st' := [.int r47]) (v := (some (.int r47))) (L' := [(4, some 1, fun _ => (I 4 1)), (4, some 2, fun _ => (I 4 2)), (4, some 3, fun _ => (I 4 3)), (4, some 4, fun _ => (I 4 4)), (4, some 5, fun _ => o44), (5, none, (I 5)), (25, some 2, fun _ => o46), (27, none, o45)]) (K' := []) zco_52 rfl rfl rfl rfl rfl rfl rfl rfl ?_
              refine g_goto hc rfl ?_
              replace h := zws h
              exact g_ireturn hc rfl rfl rfl (fun _ => ⟨rfl, rfl⟩) h
          · replace h := zwp_f h hx
            refine g_aload_n (pc' := 48)  hc rfl rfl rfl rfl ?_
            refine g_bipush (pc' := 50) (v := (-20 : Int32)) hc rfl zkb_m20 rfl ?_
            refine z_virt (as := [.int (-20 : Int32)]) (a := 4) (r := []) hc rfl rfl rfl rfl sh_4 rfl zco_58 rfl rfl rfl ?_
            refine ok_X6_push_4 (zdp hd rfl) (zwp_mono (zwp_bind h) ?_)
            rintro ⟨o48, o49⟩ h
            refine z_po (pc' := 53) (st' := []) (v := none) (L' := [(4, some 1, fun _ => o49), (4, some 2, fun _ => (I 4 2)), (4, some 3, fun _ => (I 4 3)), (4, some 4, fun _ => (I 4 4)), (4, some 5, fun _ => (I 4 5)), (5, none, o48), (25, some 2, fun _ => (I 25 2)), (27, none, (I 27))]) (K' := []) zco_58 rfl rfl rfl rfl rfl rfl rfl rfl ?_
            refine g_aload_n (pc' := 54)  hc rfl rfl rfl rfl ?_
            refine g_dup (pc' := 55)  hc rfl rfl rfl ?_
            refine z_getI (pc' := 58) (v := (I 4 2)) hc rfl rfl rfl sh_4 rfl rfl rfl ?_
            refine g_iconst (pc' := 59) (v := (1 : Int32)) hc rfl zki_1 rfl ?_
            refine g_iadd (pc' := 60)  hc rfl rfl ?_
            refine z_putI (pc' := 63) (L' := [(4, some 1, fun _ => o49), (4, some 2, fun _ => (((I 4 2)) + (1 : Int32))), (4, some 3, fun _ => (I 4 3)), (4, some 4, fun _ => (I 4 4)), (4, some 5, fun _ => (I 4 5)), (5, none, o48), (25, some 2, fun _ => (I 25 2)), (27, none, (I 27))]) hc rfl rfl rfl sh_4 rfl zft_6_2 rfl (fun h => Bool.noConfusion h) rfl rfl rfl ?_
            refine g_aload_n (pc' := 64)  hc rfl rfl rfl rfl ?_
            refine g_iconst (pc' := 65) (v := (1 : Int32)) hc rfl zki_1 rfl ?_
            refine z_virt (as := [.int (1 : Int32)]) (a := 4) (r := []) hc rfl rfl rfl rfl sh_4 rfl zco_50 rfl rfl rfl ?_
            refine ok_X6_beginPart_4 (zdp hd rfl) (zwp_mono (zwp_bind h) ?_)
            rintro ⟨o50, o51, o52⟩ h
            refine z_po (pc' := 68) (st' := []) (v := none) (L' := [(4, some 1, fun _ => o49), (4, some 2, fun _ => (((I 4 2)) + (1 : Int32))), (4, some 3, fun _ => o51), (4, some 4, fun _ => o50), (4, some 5, fun _ => o52), (5, none, o48), (25, some 2, fun _ => (I 25 2)), (27, none, (I 27))]) (K' := []) zco_50 rfl rfl rfl rfl rfl rfl rfl rfl ?_
            refine g_iconst (pc' := 69) (v := (0 : Int32)) hc rfl zki_0 rfl ?_
            replace h := zws h
            exact g_ireturn hc rfl rfl rfl (fun _ => ⟨rfl, rfl⟩) h
        · replace h := zwp_f h hx
          refine g_iconst (pc' := 41) (v := (2 : Int32)) hc rfl zki_2 rfl ?_
          replace h := zws h
          exact g_ireturn hc rfl rfl rfl (fun _ => ⟨rfl, rfl⟩) h
      · replace h := zwp_f h hx
        refine g_iconst (pc' := 30) (v := (1 : Int32)) hc rfl zki_1 rfl ?_
        replace h := zws h
        exact g_ireturn hc rfl rfl rfl (fun _ => ⟨rfl, rfl⟩) h
set_option maxRecDepth 4000 in
theorem ok_X6_rankOf {p q : Nat} {I : pI} {J : pJ} {a0 : Int32} {Q : pQ} {d : Nat} (hd : 1 ≤ d) (h : zwp (f_X6_rankOf a0) (fun r => Q (.inl (some (.int r))) (zS p q I [] J []))) : pm_call M cost zext d 57 [.int a0] (pm_st 108 (shp p q) I J) Q := by
  obtain ⟨d, rfl⟩ := zd1 hd rfl
  have hc := pm_call_m (M := M) (cost := cost) zext_m d
  refine z_in (L := []) (K := []) (ls := [some (.int a0)]) zmt_57 zco_57 rfl rfl zid_n zid_n ?_
  delta f_X6_rankOf at h
  refine g_iload_n (pc' := 1)  hc rfl rfl rfl ?_
  by_cases hx1 : a0 = (-19 : Int32)
  · replace h := zwp_t h hx1
    refine z_switch (pc' := 62) hc rfl (by rw [hx1]; decide +kernel) ?_
    refine g_bipush (pc' := 64) (v := (6 : Int32)) hc rfl zkb_6 rfl ?_
    replace h := zws h
    exact g_ireturn hc rfl rfl rfl (fun _ => ⟨rfl, rfl⟩) h
  replace h := zwp_f h hx1
  by_cases hx2 : a0 = (-18 : Int32)
  · replace h := zwp_t h hx2
    refine z_switch (pc' := 62) hc rfl (by rw [hx2]; decide +kernel) ?_
    refine g_bipush (pc' := 64) (v := (6 : Int32)) hc rfl zkb_6 rfl ?_
    replace h := zws h
    exact g_ireturn hc rfl rfl rfl (fun _ => ⟨rfl, rfl⟩) h
  replace h := zwp_f h hx2
  by_cases hx3 : a0 = (-17 : Int32)
  · replace h := zwp_t h hx3
    refine z_switch (pc' := 60) hc rfl (by rw [hx3]; decide +kernel) ?_
    refine g_iconst (pc' := 61) (v := (5 : Int32)) hc rfl zki_5 rfl ?_
    replace h := zws h
    exact g_ireturn hc rfl rfl rfl (fun _ => ⟨rfl, rfl⟩) h
  replace h := zwp_f h hx3
  by_cases hx4 : a0 = (-16 : Int32)
  · replace h := zwp_t h hx4
    refine z_switch (pc' := 60) hc rfl (by rw [hx4]; decide +kernel) ?_
    refine g_iconst (pc' := 61) (v := (5 : Int32)) hc rfl zki_5 rfl ?_
    replace h := zws h
    exact g_ireturn hc rfl rfl rfl (fun _ => ⟨rfl, rfl⟩) h
  replace h := zwp_f h hx4
  by_cases hx5 : a0 = (-15 : Int32)
  · replace h := zwp_t h hx5
    refine z_switch (pc' := 58) hc rfl (by rw [hx5]; decide +kernel) ?_
    refine g_iconst (pc' := 59) (v := (4 : Int32)) hc rfl zki_4 rfl ?_
    replace h := zws h
    exact g_ireturn hc rfl rfl rfl (fun _ => ⟨rfl, rfl⟩) h
  replace h := zwp_f h hx5
  by_cases hx6 : a0 = (-14 : Int32)
  · replace h := zwp_t h hx6
    refine z_switch (pc' := 58) hc rfl (by rw [hx6]; decide +kernel) ?_
    refine g_iconst (pc' := 59) (v := (4 : Int32)) hc rfl zki_4 rfl ?_
    replace h := zws h
    exact g_ireturn hc rfl rfl rfl (fun _ => ⟨rfl, rfl⟩) h
  replace h := zwp_f h hx6
  by_cases hx7 : a0 = (-13 : Int32)
  · replace h := zwp_t h hx7
    refine z_switch (pc' := 56) hc rfl (by rw [hx7]; decide +kernel) ?_
    refine g_iconst (pc' := 57) (v := (3 : Int32)) hc rfl zki_3 rfl ?_
    replace h := zws h
    exact g_ireturn hc rfl rfl rfl (fun _ => ⟨rfl, rfl⟩) h
  replace h := zwp_f h hx7
  by_cases hx8 : a0 = (-12 : Int32)
  · replace h := zwp_t h hx8
    refine z_switch (pc' := 54) hc rfl (by rw [hx8]; decide +kernel) ?_
    refine g_iconst (pc' := 55) (v := (2 : Int32)) hc rfl zki_2 rfl ?_
    replace h := zws h
    exact g_ireturn hc rfl rfl rfl (fun _ => ⟨rfl, rfl⟩) h
  replace h := zwp_f h hx8
  by_cases hx9 : a0 = (-11 : Int32)
  · replace h := zwp_t h hx9
    refine z_switch (pc' := 52) hc rfl (by rw [hx9]; decide +kernel) ?_
    refine g_iconst (pc' := 53) (v := (1 : Int32)) hc rfl zki_1 rfl ?_
    replace h := zws h
    exact g_ireturn hc rfl rfl rfl (fun _ => ⟨rfl, rfl⟩) h
  replace h := zwp_f h hx9
  refine z_switch (pc' := 65) hc rfl (zsw_df (told := [(-19 : Int32), (-18 : Int32), (-17 : Int32), (-16 : Int32), (-15 : Int32), (-14 : Int32), (-13 : Int32), (-12 : Int32), (-11 : Int32)]) (by decide +kernel) (by decide) rfl (zne_c hx1 (zne_c hx2 (zne_c hx3 (zne_c hx4 (zne_c hx5 (zne_c hx6 (zne_c hx7 (zne_c hx8 (zne_c hx9 zne_n)))))))))) ?_
  refine g_iconst (pc' := 66) (v := (-1 : Int32)) hc rfl zki_m1 rfl ?_
  replace h := zws h
  exact g_ireturn hc rfl rfl rfl (fun _ => ⟨rfl, rfl⟩) h
set_option maxRecDepth 4000 in
theorem ok_X6_release_4_25 {p q : Nat} {I : pI} {J : pJ} {a2 : Int32} {Q : pQ} {d : Nat} (hd : 2 ≤ d) (h : zwp (f_X6_release a2 (I 27) (I 25 2) (I 5) (I 4 1)) (fun w => match w with | (o0, o1, o2) => Q (.inl none) (zS p q I [(4, some 1, fun _ => o2), (25, some 2, fun _ => o1), (27, none, o0)] J []))) : pm_call M cost zext d 59 [.ref 4, .ref 25, .int a2] (pm_st 108 (shp p q) I J) Q := by
  obtain ⟨d, rfl⟩ := zd1 hd rfl
  have hc := pm_call_m (M := M) (cost := cost) zext_m d
  refine z_in (L := [(4, some 1, fun _ => (I 4 1)), (25, some 2, fun _ => (I 25 2)), (27, none, (I 27))]) (K := []) (ls := [some (.ref 4), some (.ref 25), some (.int a2)]) zmt_59 zco_59 rfl rfl (zid_s (zid_s (zid_a zid_n))) zid_n ?_
  delta f_X6_release at h
  refine zjn (G := (fun (g : (Nat → Int32) × Int32 × Int32) => match g with | (y4, y5, y6) => pm_ev C_X6_release (d + 1) (pm_call M cost zext d) cost (false, false) 108 0 0 Q 51 [some (.ref 4), some (.ref 25), some (.int a2)] [] 0 0 (zS p q I [(4, some 1, fun _ => y6), (25, some 2, fun _ => y5), (27, none, y4)] J []))) (zwp_bind h) ?_ (fun h => ?_)
  · rintro ⟨y4, y5, y6⟩ h
    replace h := zws h
    exact g_return hc rfl rfl (fun _ => ⟨rfl, rfl⟩) h
  refine zitr_ev (G := (fun (g : (Nat → Int32) × Int32 × Int32) => match g with | (x1, x2, x3) => pm_ev C_X6_release (d + 1) (pm_call M cost zext d) cost (false, false) 108 0 0 Q 0 [some (.ref 4), some (.ref 25), some (.int a2)] [] 0 0 (zS p q I [(4, some 1, fun _ => x3), (25, some 2, fun _ => x2), (27, none, x1)] J []))) ?_ zFU ((I 27), (I 25 2), (I 4 1)) h
  rintro ⟨x1, x2, x3⟩ h
  refine g_aload_n (pc' := 1)  hc rfl rfl rfl rfl ?_
  refine z_getI (pc' := 4) (v := x3) hc rfl rfl rfl sh_4 rfl rfl rfl ?_
  refine g_if_le (pc' := 7) hc rfl rfl (fun hx => ?_) (fun hx => ?_)
  · replace h := zwp_t h hx
    replace h := zwp_r h
    exact h
  · replace h := zwp_f h hx
    refine g_aload_n (pc' := 8)  hc rfl rfl rfl rfl ?_
    refine z_getR (pc' := 11)  hc rfl rfl rfl sh_4 rfl rfl ?_
    refine g_aload_n (pc' := 12)  hc rfl rfl rfl rfl ?_
    refine z_getI (pc' := 15) (v := x3) hc rfl rfl rfl sh_4 rfl rfl rfl ?_
    refine g_iconst (pc' := 16) (v := (1 : Int32)) hc rfl zki_1 rfl ?_
    refine g_isub (pc' := 17)  hc rfl rfl ?_
    have hb := (zwp_bnd h).1
    replace h := (zwp_bnd h).2
    refine z_iaload (pc' := 18) (v := (((I 5)) (x3 - (1 : Int32)).toNatClampNeg)) hc rfl rfl sh_5 hb rfl rfl ?_
    refine z_stat (as := [.int (((I 5)) (x3 - (1 : Int32)).toNatClampNeg)]) (r := []) hc rfl rfl rfl rfl zco_57 rfl rfl rfl ?_
    refine ok_X6_rankOf (zdp hd rfl) (zwp_mono (zwp_bind h) ?_)
    rintro r7 h
    refine z_po (pc' := 21) (st' := [.int r7]) (v := (some (.int r7))) (L' := [(4, some 1, fun _ => x3), (25, some 2, fun _ => x2), (27, none, x1)]) (K' := []) zco_57 rfl rfl rfl rfl rfl rfl rfl rfl ?_
    refine g_iload_n (pc' := 22)  hc rfl rfl rfl ?_
    refine g_icmp_lt (pc' := 25) hc rfl rfl (fun hx => ?_) (fun hx => ?_)
    · replace h := zwp_t h hx
      replace h := zwp_r h
      exact h
    · replace h := zwp_f h hx
      refine g_aload_n (pc' := 26)  hc rfl rfl rfl rfl ?_
      refine g_dup (pc' := 27)  hc rfl rfl rfl ?_
      refine z_getI (pc' := 30) (v := x3) hc rfl rfl rfl sh_4 rfl rfl rfl ?_
      refine g_iconst (pc' := 31) (v := (1 : Int32)) hc rfl zki_1 rfl ?_
      refine g_isub (pc' := 32)  hc rfl rfl ?_
      refine z_putI (pc' := 35) (L' := [(4, some 1, fun _ => (x3 - (1 : Int32))), (25, some 2, fun _ => x2), (27, none, x1)]) hc rfl rfl rfl sh_4 rfl zft_6_1 rfl (fun h => Bool.noConfusion h) rfl rfl rfl ?_
      refine g_aload_n (pc' := 36)  hc rfl rfl rfl rfl ?_
      refine g_aload_n (pc' := 37)  hc rfl rfl rfl rfl ?_
      refine z_getR (pc' := 40)  hc rfl rfl rfl sh_4 rfl rfl ?_
      refine g_aload_n (pc' := 41)  hc rfl rfl rfl rfl ?_
      refine z_getI (pc' := 44) (v := (x3 - (1 : Int32))) hc rfl rfl rfl sh_4 rfl rfl rfl ?_
      have hb := (zwp_bnd h).1
      replace h := (zwp_bnd h).2
      refine z_iaload (pc' := 45) (v := (((I 5)) (x3 - (1 : Int32)).toNatClampNeg)) hc rfl rfl sh_5 hb rfl rfl ?_
      refine z_virt (as := [.int (((I 5)) (x3 - (1 : Int32)).toNatClampNeg)]) (a := 25) (r := []) hc rfl rfl rfl rfl sh_25 rfl zco_44 rfl rfl rfl ?_
      refine ok_X5_add_25 (zdp hd rfl) (zwp_mono (zwp_bind h) ?_)
      rintro ⟨o8, o9⟩ h
      refine z_po (pc' := 48) (st' := []) (v := none) (L' := [(4, some 1, fun _ => (x3 - (1 : Int32))), (25, some 2, fun _ => o9), (27, none, o8)]) (K' := []) zco_44 rfl rfl rfl rfl rfl rfl rfl rfl ?_
      refine g_goto hc rfl ?_
      replace h := zwp_l h
      exact h
set_option maxRecDepth 4000 in
theorem ok_X9_sign_1 {p q : Nat} {I : pI} {J : pJ} {Q : pQ} {d : Nat} (hd : 1 ≤ d) (h : zwp (f_X9_sign (I 2) (I 1 5) (I 1 3)) (fun r => Q (.inl (some (.int r))) (zS p q I [] J []))) : pm_call M cost zext d 89 [.ref 1] (pm_st 108 (shp p q) I J) Q := by
  obtain ⟨d, rfl⟩ := zd1 hd rfl
  have hc := pm_call_m (M := M) (cost := cost) zext_m d
  refine z_in (L := []) (K := []) (ls := [some (.ref 1)]) zmt_89 zco_89 rfl rfl zid_n zid_n ?_
  delta f_X9_sign at h
  refine g_aload_n (pc' := 1)  hc rfl rfl rfl rfl ?_
  refine z_getI (pc' := 4) (v := (I 1 5)) hc rfl rfl rfl sh_1 rfl rfl rfl ?_
  refine g_iconst (pc' := 5) (v := (3 : Int32)) hc rfl zki_3 rfl ?_
  refine g_icmp_ne (pc' := 8) hc rfl rfl (fun hx => ?_) (fun hx => ?_)
  · replace h := zwp_f h hx
    refine g_iconst (pc' := 21) (v := (-1 : Int32)) hc rfl zki_m1 rfl ?_
    replace h := zws h
    exact g_ireturn hc rfl rfl rfl (fun _ => ⟨rfl, rfl⟩) h
  · replace h := zwp_t h hx
    refine g_aload_n (pc' := 9)  hc rfl rfl rfl rfl ?_
    refine z_getR (pc' := 12)  hc rfl rfl rfl sh_1 rfl rfl ?_
    refine g_aload_n (pc' := 13)  hc rfl rfl rfl rfl ?_
    refine z_getI (pc' := 16) (v := (I 1 3)) hc rfl rfl rfl sh_1 rfl rfl rfl ?_
    have hb := (zwp_bnd h).1
    replace h := (zwp_bnd h).2
    refine z_caload (pc' := 17) (v := (((I 2)) ((I 1 3)).toNatClampNeg)) hc rfl rfl sh_2 hb rfl rfl ?_
    refine g_goto hc rfl ?_
    replace h := zws h
    exact g_ireturn hc rfl rfl rfl (fun _ => ⟨rfl, rfl⟩) h
set_option maxRecDepth 4000 in
theorem ok_X6_operatorOf_1 {p q : Nat} {I : pI} {J : pJ} {Q : pQ} {d : Nat} (hd : 8 ≤ d) (h : zwp (f_X6_operatorOf (I 2) (I 1 4) (I 1 5) (I 1 3)) (fun r => Q (.inl (some (.int r))) (zS p q I [] J []))) : pm_call M cost zext d 56 [.ref 1] (pm_st 108 (shp p q) I J) Q := by
  obtain ⟨d, rfl⟩ := zd1 hd rfl
  have hc := pm_call_m (M := M) (cost := cost) zext_m d
  refine z_in (L := []) (K := []) (ls := [some (.ref 1)]) zmt_56 zco_56 rfl rfl zid_n zid_n ?_
  delta f_X6_operatorOf at h
  refine g_aload_n (pc' := 1)  hc rfl rfl rfl rfl ?_
  refine g_ldc_t (pc' := 3)  hc rfl rfl rfl ?_
  refine z_virt (as := [.retAddr 15]) (a := 1) (r := []) hc rfl rfl rfl rfl sh_1 rfl zco_90 rfl rfl rfl ?_
  refine ok_X9_isWord_1 (zdp hd rfl) (zlt rfl) (zwp_mono (zwp_bind h) ?_)
  rintro r1 h
  refine z_po (pc' := 6) (st' := [.int r1]) (v := (some (.int r1))) (L' := []) (K' := []) zco_90 rfl rfl rfl rfl rfl rfl rfl rfl ?_
  refine g_if_eq (pc' := 9) hc rfl rfl (fun hx => ?_) (fun hx => ?_)
  · replace h := zwp_t h hx
    refine g_aload_n (pc' := 13)  hc rfl rfl rfl rfl ?_
    refine g_ldc_t (pc' := 15)  hc rfl rfl rfl ?_
    refine z_virt (as := [.retAddr 16]) (a := 1) (r := []) hc rfl rfl rfl rfl sh_1 rfl zco_90 rfl rfl rfl ?_
    refine ok_X9_isWord_1 (zdp hd rfl) (zlt rfl) (zwp_mono (zwp_bind h) ?_)
    rintro r2 h
    refine z_po (pc' := 18) (st' := [.int r2]) (v := (some (.int r2))) (L' := []) (K' := []) zco_90 rfl rfl rfl rfl rfl rfl rfl rfl ?_
    refine g_if_eq (pc' := 21) hc rfl rfl (fun hx => ?_) (fun hx => ?_)
    · replace h := zwp_t h hx
      refine g_aload_n (pc' := 25)  hc rfl rfl rfl rfl ?_
      refine z_virt (as := []) (a := 1) (r := []) hc rfl rfl rfl rfl sh_1 rfl zco_89 rfl rfl rfl ?_
      refine ok_X9_sign_1 (zdp hd rfl) (zwp_mono (zwp_bind h) ?_)
      rintro r3 h
      refine z_po (pc' := 28) (st' := [.int r3]) (v := (some (.int r3))) (L' := []) (K' := []) zco_89 rfl rfl rfl rfl rfl rfl rfl rfl ?_
      by_cases hx4 : r3 = (42 : Int32)
      · replace h := zwp_t h hx4
        refine z_switch (pc' := 136) hc rfl (by rw [hx4]; decide +kernel) ?_
        refine g_bipush (pc' := 138) (v := (-18 : Int32)) hc rfl zkb_m18 rfl ?_
        replace h := zws h
        exact g_ireturn hc rfl rfl rfl (fun _ => ⟨rfl, rfl⟩) h
      replace h := zwp_f h hx4
      by_cases hx5 : r3 = (43 : Int32)
      · replace h := zwp_t h hx5
        refine z_switch (pc' := 130) hc rfl (by rw [hx5]; decide +kernel) ?_
        refine g_bipush (pc' := 132) (v := (-16 : Int32)) hc rfl zkb_m16 rfl ?_
        replace h := zws h
        exact g_ireturn hc rfl rfl rfl (fun _ => ⟨rfl, rfl⟩) h
      replace h := zwp_f h hx5
      by_cases hx6 : r3 = (45 : Int32)
      · replace h := zwp_t h hx6
        refine z_switch (pc' := 133) hc rfl (by rw [hx6]; decide +kernel) ?_
        refine g_bipush (pc' := 135) (v := (-17 : Int32)) hc rfl zkb_m17 rfl ?_
        replace h := zws h
        exact g_ireturn hc rfl rfl rfl (fun _ => ⟨rfl, rfl⟩) h
      replace h := zwp_f h hx6
      by_cases hx7 : r3 = (47 : Int32)
      · replace h := zwp_t h hx7
        refine z_switch (pc' := 139) hc rfl (by rw [hx7]; decide +kernel) ?_
        refine g_bipush (pc' := 141) (v := (-19 : Int32)) hc rfl zkb_m19 rfl ?_
        replace h := zws h
        exact g_ireturn hc rfl rfl rfl (fun _ => ⟨rfl, rfl⟩) h
      replace h := zwp_f h hx7
      by_cases hx8 : r3 = (60 : Int32)
      · replace h := zwp_t h hx8
        refine z_switch (pc' := 124) hc rfl (by rw [hx8]; decide +kernel) ?_
        refine g_bipush (pc' := 126) (v := (-14 : Int32)) hc rfl zkb_m14 rfl ?_
        replace h := zws h
        exact g_ireturn hc rfl rfl rfl (fun _ => ⟨rfl, rfl⟩) h
      replace h := zwp_f h hx8
      by_cases hx9 : r3 = (61 : Int32)
      · replace h := zwp_t h hx9
        refine z_switch (pc' := 127) hc rfl (by rw [hx9]; decide +kernel) ?_
        refine g_bipush (pc' := 129) (v := (-15 : Int32)) hc rfl zkb_m15 rfl ?_
        replace h := zws h
        exact g_ireturn hc rfl rfl rfl (fun _ => ⟨rfl, rfl⟩) h
      replace h := zwp_f h hx9
      refine z_switch (pc' := 142) hc rfl (zsw_df (told := [(42 : Int32), (43 : Int32), (45 : Int32), (47 : Int32), (60 : Int32), (61 : Int32)]) (by decide +kernel) (by decide) rfl (zne_c hx4 (zne_c hx5 (zne_c hx6 (zne_c hx7 (zne_c hx8 (zne_c hx9 zne_n))))))) ?_
      refine g_iconst (pc' := 143) (v := (-1 : Int32)) hc rfl zki_m1 rfl ?_
      replace h := zws h
      exact g_ireturn hc rfl rfl rfl (fun _ => ⟨rfl, rfl⟩) h
    · replace h := zwp_f h hx
      refine g_bipush (pc' := 23) (v := (-12 : Int32)) hc rfl zkb_m12 rfl ?_
      replace h := zws h
      exact g_ireturn hc rfl rfl rfl (fun _ => ⟨rfl, rfl⟩) h
  · replace h := zwp_f h hx
    refine g_bipush (pc' := 11) (v := (-11 : Int32)) hc rfl zkb_m11 rfl ?_
    replace h := zws h
    exact g_ireturn hc rfl rfl rfl (fun _ => ⟨rfl, rfl⟩) h
set_option maxRecDepth 4000 in
theorem ok_X6_readOperator_4_1_25 {p q : Nat} {I : pI} {J : pJ} {Q : pQ} {d : Nat} (hd : 9 ≤ d) (h : zwp (f_X6_readOperator (I 4 4) (I 4 2) (I 4 3) (I 4 5) (I 27) (I 25 2) (I 2) (I 1 4) (I 1 5) (I 1 3) (I 5) (I 4 1)) (fun w => match w with | (r, o0, o1, o2, o3, o4, o5, o6, o7) => Q (.inl (some (.int r))) (zS p q I [(4, some 1, fun _ => o7), (4, some 2, fun _ => o1), (4, some 3, fun _ => o2), (4, some 4, fun _ => o0), (4, some 5, fun _ => o3), (5, none, o6), (25, some 2, fun _ => o5), (27, none, o4)] J []))) : pm_call M cost zext d 55 [.ref 4, .ref 1, .ref 25] (pm_st 108 (shp p q) I J) Q := by
  obtain ⟨d, rfl⟩ := zd1 hd rfl
  have hc := pm_call_m (M := M) (cost := cost) zext_m d
  refine z_in (L := [(4, some 1, fun _ => (I 4 1)), (4, some 2, fun _ => (I 4 2)), (4, some 3, fun _ => (I 4 3)), (4, some 4, fun _ => (I 4 4)), (4, some 5, fun _ => (I 4 5)), (5, none, (I 5)), (25, some 2, fun _ => (I 25 2)), (27, none, (I 27))]) (K := []) (ls := [some (.ref 4), some (.ref 1), some (.ref 25), none, none, none]) zmt_55 zco_55 rfl rfl (zid_s (zid_s (zid_s (zid_s (zid_s (zid_a (zid_s (zid_a zid_n)))))))) zid_n ?_
  delta f_X6_readOperator at h
  refine g_aload_n (pc' := 1)  hc rfl rfl rfl rfl ?_
  refine g_bipush (pc' := 3) (v := (41 : Int32)) hc rfl zkb_41 rfl ?_
  refine z_virt (as := [.int (41 : Int32)]) (a := 1) (r := []) hc rfl rfl rfl rfl sh_1 rfl zco_88 rfl rfl rfl ?_
  refine ok_X9_isSign_1 (zdp hd rfl) (zwp_mono (zwp_bind h) ?_)
  rintro r1 h
  refine z_po (pc' := 6) (st' := [.int r1]) (v := (some (.int r1))) (L' := [(4, some 1, fun _ => (I 4 1)), (4, some 2, fun _ => (I 4 2)), (4, some 3, fun _ => (I 4 3)), (4, some 4, fun _ => (I 4 4)), (4, some 5, fun _ => (I 4 5)), (5, none, (I 5)), (25, some 2, fun _ => (I 25 2)), (27, none, (I 27))]) (K' := []) zco_88 rfl rfl rfl rfl rfl rfl rfl rfl ?_
  refine g_if_eq (pc' := 9) hc rfl rfl (fun hx => ?_) (fun hx => ?_)
  · replace h := zwp_t h hx
    refine g_aload_n (pc' := 49)  hc rfl rfl rfl rfl ?_
    refine z_stat (as := [.ref 1]) (r := []) hc rfl rfl rfl rfl zco_56 rfl rfl rfl ?_
    refine ok_X6_operatorOf_1 (zdp hd rfl) (zwp_mono (zwp_bind h) ?_)
    rintro r2 h
    refine z_po (pc' := 52) (st' := [.int r2]) (v := (some (.int r2))) (L' := [(4, some 1, fun _ => (I 4 1)), (4, some 2, fun _ => (I 4 2)), (4, some 3, fun _ => (I 4 3)), (4, some 4, fun _ => (I 4 4)), (4, some 5, fun _ => (I 4 5)), (5, none, (I 5)), (25, some 2, fun _ => (I 25 2)), (27, none, (I 27))]) (K' := []) zco_56 rfl rfl rfl rfl rfl rfl rfl rfl ?_
    refine g_istore_n (pc' := 53) (ls1 := [some (.ref 4), some (.ref 1), some (.ref 25), some (.int r2), none, none]) hc rfl (zlt rfl) rfl rfl ?_
    refine g_iload_n (pc' := 54)  hc rfl rfl rfl ?_
    refine g_iconst (pc' := 55) (v := (-1 : Int32)) hc rfl zki_m1 rfl ?_
    refine g_icmp_ne (pc' := 58) hc rfl rfl (fun hx => ?_) (fun hx => ?_)
    · replace h := zwp_f h hx
      refine g_iload_n (pc' := 61)  hc rfl rfl rfl ?_
      refine z_stat (as := [.int r2]) (r := []) hc rfl rfl rfl rfl zco_57 rfl rfl rfl ?_
      refine ok_X6_rankOf (zdp hd rfl) (zwp_mono (zwp_bind h) ?_)
      rintro r3 h
      refine z_po (pc' := 64) (st' := [.int r3]) (v := (some (.int r3))) (L' := [(4, some 1, fun _ => (I 4 1)), (4, some 2, fun _ => (I 4 2)), (4, some 3, fun _ => (I 4 3)), (4, some 4, fun _ => (I 4 4)), (4, some 5, fun _ => (I 4 5)), (5, none, (I 5)), (25, some 2, fun _ => (I 25 2)), (27, none, (I 27))]) (K' := []) zco_57 rfl rfl rfl rfl rfl rfl rfl rfl ?_
      refine g_istore (pc' := 66) (ls1 := [some (.ref 4), some (.ref 1), some (.ref 25), some (.int r2), some (.int r3), none]) hc rfl (zlt rfl) rfl rfl ?_
      refine g_iload (pc' := 68)  hc rfl rfl rfl ?_
      refine g_bipush (pc' := 70) (v := (-14 : Int32)) hc rfl zkb_m14 rfl ?_
      refine z_stat (as := [.int (-14 : Int32)]) (r := [.int r3]) hc rfl rfl rfl rfl zco_57 rfl rfl rfl ?_
      refine ok_X6_rankOf (zdp hd rfl) (zwp_mono (zwp_bind h) ?_)
      rintro r4 h
      refine z_po (pc' := 73) (st' := [.int r4, .int r3]) (v := (some (.int r4))) (L' := [(4, some 1, fun _ => (I 4 1)), (4, some 2, fun _ => (I 4 2)), (4, some 3, fun _ => (I 4 3)), (4, some 4, fun _ => (I 4 4)), (4, some 5, fun _ => (I 4 5)), (5, none, (I 5)), (25, some 2, fun _ => (I 25 2)), (27, none, (I 27))]) (K' := []) zco_57 rfl rfl rfl rfl rfl rfl rfl rfl ?_
      refine zjn (G := (fun (j5 : Int32) => pm_ev C_X6_readOperator (d + 1) (pm_call M cost zext d) cost (false, false) 108 0 0 Q 81 [some (.ref 4), some (.ref 1), some (.ref 25), some (.int r2), some (.int r3), none] [.int j5] 0 0 (zS p q I [(4, some 1, fun _ => (I 4 1)), (4, some 2, fun _ => (I 4 2)), (4, some 3, fun _ => (I 4 3)), (4, some 4, fun _ => (I 4 4)), (4, some 5, fun _ => (I 4 5)), (5, none, (I 5)), (25, some 2, fun _ => (I 25 2)), (27, none, (I 27))] J []))) (zwp_bind h) ?_ (fun h => ?_)
      · rintro j5 h
        refine g_istore (pc' := 83) (ls1 := [some (.ref 4), some (.ref 1), some (.ref 25), some (.int r2), some (.int r3), some (.int j5)]) hc rfl (zlt rfl) rfl rfl ?_
        refine g_aload_n (pc' := 84)  hc rfl rfl rfl rfl ?_
        refine g_aload_n (pc' := 85)  hc rfl rfl rfl rfl ?_
        refine g_iload (pc' := 87)  hc rfl rfl rfl ?_
        refine zjn (G := (fun (j6 : Int32) => pm_ev C_X6_readOperator (d + 1) (pm_call M cost zext d) cost (false, false) 108 0 0 Q 99 [some (.ref 4), some (.ref 1), some (.ref 25), some (.int r2), some (.int r3), some (.int j5)] [.int j6, .ref 25, .ref 4] 0 0 (zS p q I [(4, some 1, fun _ => (I 4 1)), (4, some 2, fun _ => (I 4 2)), (4, some 3, fun _ => (I 4 3)), (4, some 4, fun _ => (I 4 4)), (4, some 5, fun _ => (I 4 5)), (5, none, (I 5)), (25, some 2, fun _ => (I 25 2)), (27, none, (I 27))] J []))) (zwp_bind h) ?_ (fun h => ?_)
        · rintro j6 h
          refine z_virt (as := [.ref 25, .int j6]) (a := 4) (r := []) hc rfl rfl rfl rfl sh_4 rfl zco_59 rfl rfl rfl ?_
          refine ok_X6_release_4_25 (zdp hd rfl) (zwp_mono (zwp_bind h) ?_)
          rintro ⟨o7, o8, o9⟩ h
          refine z_po (pc' := 102) (st' := []) (v := none) (L' := [(4, some 1, fun _ => o9), (4, some 2, fun _ => (I 4 2)), (4, some 3, fun _ => (I 4 3)), (4, some 4, fun _ => (I 4 4)), (4, some 5, fun _ => (I 4 5)), (5, none, (I 5)), (25, some 2, fun _ => o8), (27, none, o7)]) (K' := []) zco_59 rfl rfl rfl rfl rfl rfl rfl rfl ?_
          refine g_iload (pc' := 104)  hc rfl rfl rfl ?_
          refine g_if_eq (pc' := 107) hc rfl rfl (fun hx => ?_) (fun hx => ?_)
          · replace h := zwp_t h hx
            refine g_aload_n (pc' := 136)  hc rfl rfl rfl rfl ?_
            refine g_iload_n (pc' := 137)  hc rfl rfl rfl ?_
            refine z_virt (as := [.int r2]) (a := 4) (r := []) hc rfl rfl rfl rfl sh_4 rfl zco_58 rfl rfl rfl ?_
            refine ok_X6_push_4 (zdp hd rfl) (zwp_mono (zwp_bind h) ?_)
            rintro ⟨o10, o11⟩ h
            refine z_po (pc' := 140) (st' := []) (v := none) (L' := [(4, some 1, fun _ => o11), (4, some 2, fun _ => (I 4 2)), (4, some 3, fun _ => (I 4 3)), (4, some 4, fun _ => (I 4 4)), (4, some 5, fun _ => (I 4 5)), (5, none, o10), (25, some 2, fun _ => o8), (27, none, o7)]) (K' := []) zco_58 rfl rfl rfl rfl rfl rfl rfl rfl ?_
            refine g_aload_n (pc' := 141)  hc rfl rfl rfl rfl ?_
            refine g_iload (pc' := 143)  hc rfl rfl rfl ?_
            refine g_bipush (pc' := 145) (v := (-12 : Int32)) hc rfl zkb_m12 rfl ?_
            refine z_stat (as := [.int (-12 : Int32)]) (r := [.int r3, .ref 4]) hc rfl rfl rfl rfl zco_57 rfl rfl rfl ?_
            refine ok_X6_rankOf (zdp hd rfl) (zwp_mono (zwp_bind h) ?_)
            rintro r12 h
            refine z_po (pc' := 148) (st' := [.int r12, .int r3, .ref 4]) (v := (some (.int r12))) (L' := [(4, some 1, fun _ => o11), (4, some 2, fun _ => (I 4 2)), (4, some 3, fun _ => (I 4 3)), (4, some 4, fun _ => (I 4 4)), (4, some 5, fun _ => (I 4 5)), (5, none, o10), (25, some 2, fun _ => o8), (27, none, o7)]) (K' := []) zco_57 rfl rfl rfl rfl rfl rfl rfl rfl ?_
            refine zjn (G := (fun (j13 : Int32) => pm_ev C_X6_readOperator (d + 1) (pm_call M cost zext d) cost (false, false) 108 0 0 Q 156 [some (.ref 4), some (.ref 1), some (.ref 25), some (.int r2), some (.int r3), some (.int j5)] [.int j13, .ref 4] 0 0 (zS p q I [(4, some 1, fun _ => o11), (4, some 2, fun _ => (I 4 2)), (4, some 3, fun _ => (I 4 3)), (4, some 4, fun _ => (I 4 4)), (4, some 5, fun _ => (I 4 5)), (5, none, o10), (25, some 2, fun _ => o8), (27, none, o7)] J []))) (zwp_bind h) ?_ (fun h => ?_)
            · rintro j13 h
              refine z_virt (as := [.int j13]) (a := 4) (r := []) hc rfl rfl rfl rfl sh_4 rfl zco_50 rfl rfl rfl ?_
              refine ok_X6_beginPart_4 (zdp hd rfl) (zwp_mono (zwp_bind h) ?_)
              rintro ⟨o14, o15, o16⟩ h
              refine z_po (pc' := 159) (st' := []) (v := none) (L' := [(4, some 1, fun _ => o11), (4, some 2, fun _ => (I 4 2)), (4, some 3, fun _ => o15), (4, some 4, fun _ => o14), (4, some 5, fun _ => o16), (5, none, o10), (25, some 2, fun _ => o8), (27, none, o7)]) (K' := []) zco_50 rfl rfl rfl rfl rfl rfl rfl rfl ?_
              refine g_iconst (pc' := 160) (v := (0 : Int32)) hc rfl zki_0 rfl ?_
              replace h := zws h
              exact g_ireturn hc rfl rfl rfl (fun _ => ⟨rfl, rfl⟩) h
            refine g_icmp_gt (pc' := 151) hc rfl rfl (fun hx => ?_) (fun hx => ?_)
            · replace h := zwp_t h hx
              refine g_iconst (pc' := 156) (v := (0 : Int32)) hc rfl zki_0 rfl ?_
              replace h := zws h
              exact h
            · replace h := zwp_f h hx
              refine g_iconst (pc' := 152) (v := (1 : Int32)) hc rfl zki_1 rfl ?_
              refine g_goto hc rfl ?_
              replace h := zws h
              exact h
          · replace h := zwp_f h hx
            refine g_aload_n (pc' := 108)  hc rfl rfl rfl rfl ?_
            refine z_getI (pc' := 111) (v := o9) hc rfl rfl rfl sh_4 rfl rfl rfl ?_
            refine g_if_le (pc' := 114) hc rfl rfl (fun hx => ?_) (fun hx => ?_)
            · replace h := zwp_t h hx
              refine g_aload_n (pc' := 136)  hc rfl rfl rfl rfl ?_
              refine g_iload_n (pc' := 137)  hc rfl rfl rfl ?_
              refine z_virt (as := [.int r2]) (a := 4) (r := []) hc rfl rfl rfl rfl sh_4 rfl zco_58 rfl rfl rfl ?_
              refine ok_X6_push_4 (zdp hd rfl) (zwp_mono (zwp_bind h) ?_)
              rintro ⟨o17, o18⟩ h
              refine z_po (pc' := 140) (st' := []) (v := none) (L' := [(4, some 1, fun _ => o18), (4, some 2, fun _ => (I 4 2)), (4, some 3, fun _ => (I 4 3)), (4, some 4, fun _ => (I 4 4)), (4, some 5, fun _ => (I 4 5)), (5, none, o17), (25, some 2, fun _ => o8), (27, none, o7)]) (K' := []) zco_58 rfl rfl rfl rfl rfl rfl rfl rfl ?_
              refine g_aload_n (pc' := 141)  hc rfl rfl rfl rfl ?_
              refine g_iload (pc' := 143)  hc rfl rfl rfl ?_
              refine g_bipush (pc' := 145) (v := (-12 : Int32)) hc rfl zkb_m12 rfl ?_
              refine z_stat (as := [.int (-12 : Int32)]) (r := [.int r3, .ref 4]) hc rfl rfl rfl rfl zco_57 rfl rfl rfl ?_
              refine ok_X6_rankOf (zdp hd rfl) (zwp_mono (zwp_bind h) ?_)
              rintro r19 h
              refine z_po (pc' := 148) (st' := [.int r19, .int r3, .ref 4]) (v := (some (.int r19))) (L' := [(4, some 1, fun _ => o18), (4, some 2, fun _ => (I 4 2)), (4, some 3, fun _ => (I 4 3)), (4, some 4, fun _ => (I 4 4)), (4, some 5, fun _ => (I 4 5)), (5, none, o17), (25, some 2, fun _ => o8), (27, none, o7)]) (K' := []) zco_57 rfl rfl rfl rfl rfl rfl rfl rfl ?_
              refine zjn (G := (fun (j20 : Int32) => pm_ev C_X6_readOperator (d + 1) (pm_call M cost zext d) cost (false, false) 108 0 0 Q 156 [some (.ref 4), some (.ref 1), some (.ref 25), some (.int r2), some (.int r3), some (.int j5)] [.int j20, .ref 4] 0 0 (zS p q I [(4, some 1, fun _ => o18), (4, some 2, fun _ => (I 4 2)), (4, some 3, fun _ => (I 4 3)), (4, some 4, fun _ => (I 4 4)), (4, some 5, fun _ => (I 4 5)), (5, none, o17), (25, some 2, fun _ => o8), (27, none, o7)] J []))) (zwp_bind h) ?_ (fun h => ?_)
              · rintro j20 h
                refine z_virt (as := [.int j20]) (a := 4) (r := []) hc rfl rfl rfl rfl sh_4 rfl zco_50 rfl rfl rfl ?_
                refine ok_X6_beginPart_4 (zdp hd rfl) (zwp_mono (zwp_bind h) ?_)
                rintro ⟨o21, o22, o23⟩ h
                refine z_po (pc' := 159) (st' := []) (v := none) (L' := [(4, some 1, fun _ => o18), (4, some 2, fun _ => (I 4 2)), (4, some 3, fun _ => o22), (4, some 4, fun _ => o21), (4, some 5, fun _ => o23), (5, none, o17), (25, some 2, fun _ => o8), (27, none, o7)]) (K' := []) zco_50 rfl rfl rfl rfl rfl rfl rfl rfl ?_
                refine g_iconst (pc' := 160) (v := (0 : Int32)) hc rfl zki_0 rfl ?_
                replace h := zws h
                exact g_ireturn hc rfl rfl rfl (fun _ => ⟨rfl, rfl⟩) h
              refine g_icmp_gt (pc' := 151) hc rfl rfl (fun hx => ?_) (fun hx => ?_)
              · replace h := zwp_t h hx
                refine g_iconst (pc' := 156) (v := (0 : Int32)) hc rfl zki_0 rfl ?_
                replace h := zws h
                exact h
              · replace h := zwp_f h hx
                refine g_iconst (pc' := 152) (v := (1 : Int32)) hc rfl zki_1 rfl ?_
                refine g_goto hc rfl ?_
                replace h := zws h
                exact h
            · replace h := zwp_f h hx
              refine g_aload_n (pc' := 115)  hc rfl rfl rfl rfl ?_
              refine z_getR (pc' := 118)  hc rfl rfl rfl sh_4 rfl rfl ?_
              refine g_aload_n (pc' := 119)  hc rfl rfl rfl rfl ?_
              refine z_getI (pc' := 122) (v := o9) hc rfl rfl rfl sh_4 rfl rfl rfl ?_
              refine g_iconst (pc' := 123) (v := (1 : Int32)) hc rfl zki_1 rfl ?_
              refine g_isub (pc' := 124)  hc rfl rfl ?_
              have hb := (zwp_bnd h).1
              replace h := (zwp_bnd h).2
              refine z_iaload (pc' := 125) (v := (((I 5)) (o9 - (1 : Int32)).toNatClampNeg)) hc rfl rfl sh_5 hb rfl rfl ?_
              refine z_stat (as := [.int (((I 5)) (o9 - (1 : Int32)).toNatClampNeg)]) (r := []) hc rfl rfl rfl rfl zco_57 rfl rfl rfl ?_
              refine ok_X6_rankOf (zdp hd rfl) (zwp_mono (zwp_bind h) ?_)
              rintro r24 h
              refine z_po (pc' := 128) (st' := [.int r24]) (v := (some (.int r24))) (L' := [(4, some 1, fun _ => o9), (4, some 2, fun _ => (I 4 2)), (4, some 3, fun _ => (I 4 3)), (4, some 4, fun _ => (I 4 4)), (4, some 5, fun _ => (I 4 5)), (5, none, (I 5)), (25, some 2, fun _ => o8), (27, none, o7)]) (K' := []) zco_57 rfl rfl rfl rfl rfl rfl rfl rfl ?_
              refine g_iload (pc' := 130)  hc rfl rfl rfl ?_
              refine g_icmp_ne (pc' := 133) hc rfl rfl (fun hx => ?_) (fun hx => ?_)
              · replace h := zwp_f h hx
                refine g_aload_n (pc' := 136)  hc rfl rfl rfl rfl ?_
                refine g_iload_n (pc' := 137)  hc rfl rfl rfl ?_
                refine z_virt (as := [.int r2]) (a := 4) (r := []) hc rfl rfl rfl rfl sh_4 rfl zco_58 rfl rfl rfl ?_
                refine ok_X6_push_4 (zdp hd rfl) (zwp_mono (zwp_bind h) ?_)
                rintro ⟨o25, o26⟩ h
                refine z_po (pc' := 140) (st' := []) (v := none) (L' := [(4, some 1, fun _ => o26), (4, some 2, fun _ => (I 4 2)), (4, some 3, fun _ => (I 4 3)), (4, some 4, fun _ => (I 4 4)), (4, some 5, fun _ => (I 4 5)), (5, none, o25), (25, some 2, fun _ => o8), (27, none, o7)]) (K' := []) zco_58 rfl rfl rfl rfl rfl rfl rfl rfl ?_
                refine g_aload_n (pc' := 141)  hc rfl rfl rfl rfl ?_
                refine g_iload (pc' := 143)  hc rfl rfl rfl ?_
                refine g_bipush (pc' := 145) (v := (-12 : Int32)) hc rfl zkb_m12 rfl ?_
                refine z_stat (as := [.int (-12 : Int32)]) (r := [.int r3, .ref 4]) hc rfl rfl rfl rfl zco_57 rfl rfl rfl ?_
                refine ok_X6_rankOf (zdp hd rfl) (zwp_mono (zwp_bind h) ?_)
                rintro r27 h
                refine z_po (pc' := 148) (st' := [.int r27, .int r3, .ref 4]) (v := (some (.int r27))) (L' := [(4, some 1, fun _ => o26), (4, some 2, fun _ => (I 4 2)), (4, some 3, fun _ => (I 4 3)), (4, some 4, fun _ => (I 4 4)), (4, some 5, fun _ => (I 4 5)), (5, none, o25), (25, some 2, fun _ => o8), (27, none, o7)]) (K' := []) zco_57 rfl rfl rfl rfl rfl rfl rfl rfl ?_
                refine zjn (G := (fun (j28 : Int32) => pm_ev C_X6_readOperator (d + 1) (pm_call M cost zext d) cost (false, false) 108 0 0 Q 156 [some (.ref 4), some (.ref 1), some (.ref 25), some (.int r2), some (.int r3), some (.int j5)] [.int j28, .ref 4] 0 0 (zS p q I [(4, some 1, fun _ => o26), (4, some 2, fun _ => (I 4 2)), (4, some 3, fun _ => (I 4 3)), (4, some 4, fun _ => (I 4 4)), (4, some 5, fun _ => (I 4 5)), (5, none, o25), (25, some 2, fun _ => o8), (27, none, o7)] J []))) (zwp_bind h) ?_ (fun h => ?_)
                · rintro j28 h
                  refine z_virt (as := [.int j28]) (a := 4) (r := []) hc rfl rfl rfl rfl sh_4 rfl zco_50 rfl rfl rfl ?_
                  refine ok_X6_beginPart_4 (zdp hd rfl) (zwp_mono (zwp_bind h) ?_)
                  rintro ⟨o29, o30, o31⟩ h
                  refine z_po (pc' := 159) (st' := []) (v := none) (L' := [(4, some 1, fun _ => o26), (4, some 2, fun _ => (I 4 2)), (4, some 3, fun _ => o30), (4, some 4, fun _ => o29), (4, some 5, fun _ => o31), (5, none, o25), (25, some 2, fun _ => o8), (27, none, o7)]) (K' := []) zco_50 rfl rfl rfl rfl rfl rfl rfl rfl ?_
                  refine g_iconst (pc' := 160) (v := (0 : Int32)) hc rfl zki_0 rfl ?_
                  replace h := zws h
                  exact g_ireturn hc rfl rfl rfl (fun _ => ⟨rfl, rfl⟩) h
                refine g_icmp_gt (pc' := 151) hc rfl rfl (fun hx => ?_) (fun hx => ?_)
                · replace h := zwp_t h hx
                  refine g_iconst (pc' := 156) (v := (0 : Int32)) hc rfl zki_0 rfl ?_
                  replace h := zws h
                  exact h
                · replace h := zwp_f h hx
                  refine g_iconst (pc' := 152) (v := (1 : Int32)) hc rfl zki_1 rfl ?_
                  refine g_goto hc rfl ?_
                  replace h := zws h
                  exact h
              · replace h := zwp_t h hx
                refine g_iconst (pc' := 134) (v := (1 : Int32)) hc rfl zki_1 rfl ?_
                replace h := zws h
                exact g_ireturn hc rfl rfl rfl (fun _ => ⟨rfl, rfl⟩) h
        refine g_if_eq (pc' := 90) hc rfl rfl (fun hx => ?_) (fun hx => ?_)
        · replace h := zwp_t h hx
          refine g_iload (pc' := 99)  hc rfl rfl rfl ?_
          replace h := zws h
          exact h
        · replace h := zwp_f h hx
          refine g_iload (pc' := 92)  hc rfl rfl rfl ?_
          refine g_iconst (pc' := 93) (v := (1 : Int32)) hc rfl zki_1 rfl ?_
          refine g_iadd (pc' := 94)  hc rfl rfl ?_
          refine g_goto hc rfl ?_
          replace h := zws h
          exact h
      refine g_icmp_ne (pc' := 76) hc rfl rfl (fun hx => ?_) (fun hx => ?_)
      · replace h := zwp_f h hx
        refine g_iconst (pc' := 81) (v := (0 : Int32)) hc rfl zki_0 rfl ?_
        replace h := zws h
        exact h
      · replace h := zwp_t h hx
        refine g_iconst (pc' := 77) (v := (1 : Int32)) hc rfl zki_1 rfl ?_
        refine g_goto hc rfl ?_
        replace h := zws h
        exact h
    · replace h := zwp_t h hx
      refine g_iconst (pc' := 59) (v := (1 : Int32)) hc rfl zki_1 rfl ?_
      replace h := zws h
      exact g_ireturn hc rfl rfl rfl (fun _ => ⟨rfl, rfl⟩) h
  · replace h := zwp_f h hx
    refine g_aload_n (pc' := 10)  hc rfl rfl rfl rfl ?_
    refine z_getI (pc' := 13) (v := (I 4 2)) hc rfl rfl rfl sh_4 rfl rfl rfl ?_
    refine g_if_le (pc' := 16) hc rfl rfl (fun hx => ?_) (fun hx => ?_)
    · replace h := zwp_t h hx
      refine g_aload_n (pc' := 49)  hc rfl rfl rfl rfl ?_
      refine z_stat (as := [.ref 1]) (r := []) hc rfl rfl rfl rfl zco_56 rfl rfl rfl ?_
      refine ok_X6_operatorOf_1 (zdp hd rfl) (zwp_mono (zwp_bind h) ?_)
      rintro r32 h
      refine z_po (pc' := 52) (st' := [.int r32]) (v := (some (.int r32))) (L' := [(4, some 1, fun _ => (I 4 1)), (4, some 2, fun _ => (I 4 2)), (4, some 3, fun _ => (I 4 3)), (4, some 4, fun _ => (I 4 4)), (4, some 5, fun _ => (I 4 5)), (5, none, (I 5)), (25, some 2, fun _ => (I 25 2)), (27, none, (I 27))]) (K' := []) zco_56 rfl rfl rfl rfl rfl rfl rfl rfl ?_
      refine g_istore_n (pc' := 53) (ls1 := [some (.ref 4), some (.ref 1), some (.ref 25), some (.int r32), none, none]) hc rfl (zlt rfl) rfl rfl ?_
      refine g_iload_n (pc' := 54)  hc rfl rfl rfl ?_
      refine g_iconst (pc' := 55) (v := (-1 : Int32)) hc rfl zki_m1 rfl ?_
      refine g_icmp_ne (pc' := 58) hc rfl rfl (fun hx => ?_) (fun hx => ?_)
      · replace h := zwp_f h hx
        refine g_iload_n (pc' := 61)  hc rfl rfl rfl ?_
        refine z_stat (as := [.int r32]) (r := []) hc rfl rfl rfl rfl zco_57 rfl rfl rfl ?_
        refine ok_X6_rankOf (zdp hd rfl) (zwp_mono (zwp_bind h) ?_)
        rintro r33 h
        refine z_po (pc' := 64) (st' := [.int r33]) (v := (some (.int r33))) (L' := [(4, some 1, fun _ => (I 4 1)), (4, some 2, fun _ => (I 4 2)), (4, some 3, fun _ => (I 4 3)), (4, some 4, fun _ => (I 4 4)), (4, some 5, fun _ => (I 4 5)), (5, none, (I 5)), (25, some 2, fun _ => (I 25 2)), (27, none, (I 27))]) (K' := []) zco_57 rfl rfl rfl rfl rfl rfl rfl rfl ?_
        refine g_istore (pc' := 66) (ls1 := [some (.ref 4), some (.ref 1), some (.ref 25), some (.int r32), some (.int r33), none]) hc rfl (zlt rfl) rfl rfl ?_
        refine g_iload (pc' := 68)  hc rfl rfl rfl ?_
        refine g_bipush (pc' := 70) (v := (-14 : Int32)) hc rfl zkb_m14 rfl ?_
        refine z_stat (as := [.int (-14 : Int32)]) (r := [.int r33]) hc rfl rfl rfl rfl zco_57 rfl rfl rfl ?_
        refine ok_X6_rankOf (zdp hd rfl) (zwp_mono (zwp_bind h) ?_)
        rintro r34 h
        refine z_po (pc' := 73) (st' := [.int r34, .int r33]) (v := (some (.int r34))) (L' := [(4, some 1, fun _ => (I 4 1)), (4, some 2, fun _ => (I 4 2)), (4, some 3, fun _ => (I 4 3)), (4, some 4, fun _ => (I 4 4)), (4, some 5, fun _ => (I 4 5)), (5, none, (I 5)), (25, some 2, fun _ => (I 25 2)), (27, none, (I 27))]) (K' := []) zco_57 rfl rfl rfl rfl rfl rfl rfl rfl ?_
        refine zjn (G := (fun (j35 : Int32) => pm_ev C_X6_readOperator (d + 1) (pm_call M cost zext d) cost (false, false) 108 0 0 Q 81 [some (.ref 4), some (.ref 1), some (.ref 25), some (.int r32), some (.int r33), none] [.int j35] 0 0 (zS p q I [(4, some 1, fun _ => (I 4 1)), (4, some 2, fun _ => (I 4 2)), (4, some 3, fun _ => (I 4 3)), (4, some 4, fun _ => (I 4 4)), (4, some 5, fun _ => (I 4 5)), (5, none, (I 5)), (25, some 2, fun _ => (I 25 2)), (27, none, (I 27))] J []))) (zwp_bind h) ?_ (fun h => ?_)
        · rintro j35 h
          refine g_istore (pc' := 83) (ls1 := [some (.ref 4), some (.ref 1), some (.ref 25), some (.int r32), some (.int r33), some (.int j35)]) hc rfl (zlt rfl) rfl rfl ?_
          refine g_aload_n (pc' := 84)  hc rfl rfl rfl rfl ?_
          refine g_aload_n (pc' := 85)  hc rfl rfl rfl rfl ?_
          refine g_iload (pc' := 87)  hc rfl rfl rfl ?_
          refine zjn (G := (fun (j36 : Int32) => pm_ev C_X6_readOperator (d + 1) (pm_call M cost zext d) cost (false, false) 108 0 0 Q 99 [some (.ref 4), some (.ref 1), some (.ref 25), some (.int r32), some (.int r33), some (.int j35)] [.int j36, .ref 25, .ref 4] 0 0 (zS p q I [(4, some 1, fun _ => (I 4 1)), (4, some 2, fun _ => (I 4 2)), (4, some 3, fun _ => (I 4 3)), (4, some 4, fun _ => (I 4 4)), (4, some 5, fun _ => (I 4 5)), (5, none, (I 5)), (25, some 2, fun _ => (I 25 2)), (27, none, (I 27))] J []))) (zwp_bind h) ?_ (fun h => ?_)
          · rintro j36 h
            refine z_virt (as := [.ref 25, .int j36]) (a := 4) (r := []) hc rfl rfl rfl rfl sh_4 rfl zco_59 rfl rfl rfl ?_
            refine ok_X6_release_4_25 (zdp hd rfl) (zwp_mono (zwp_bind h) ?_)
            rintro ⟨o37, o38, o39⟩ h
            refine z_po (pc' := 102) (st' := []) (v := none) (L' := [(4, some 1, fun _ => o39), (4, some 2, fun _ => (I 4 2)), (4, some 3, fun _ => (I 4 3)), (4, some 4, fun _ => (I 4 4)), (4, some 5, fun _ => (I 4 5)), (5, none, (I 5)), (25, some 2, fun _ => o38), (27, none, o37)]) (K' := []) zco_59 rfl rfl rfl rfl rfl rfl rfl rfl ?_
            refine g_iload (pc' := 104)  hc rfl rfl rfl ?_
            refine g_if_eq (pc' := 107) hc rfl rfl (fun hx => ?_) (fun hx => ?_)
            · replace h := zwp_t h hx
              refine g_aload_n (pc' := 136)  hc rfl rfl rfl rfl ?_
              refine g_iload_n (pc' := 137)  hc rfl rfl rfl ?_
              refine z_virt (as := [.int r32]) (a := 4) (r := []) hc rfl rfl rfl rfl sh_4 rfl zco_58 rfl rfl rfl ?_
              refine ok_X6_push_4 (zdp hd rfl) (zwp_mono (zwp_bind h) ?_)
              rintro ⟨o40, o41⟩ h
              refine z_po (pc' := 140) (st' := []) (v := none) (L' := [(4, some 1, fun _ => o41), (4, some 2, fun _ => (I 4 2)), (4, some 3, fun _ => (I 4 3)), (4, some 4, fun _ => (I 4 4)), (4, some 5, fun _ => (I 4 5)), (5, none, o40), (25, some 2, fun _ => o38), (27, none, o37)]) (K' := []) zco_58 rfl rfl rfl rfl rfl rfl rfl rfl ?_
              refine g_aload_n (pc' := 141)  hc rfl rfl rfl rfl ?_
              refine g_iload (pc' := 143)  hc rfl rfl rfl ?_
              refine g_bipush (pc' := 145) (v := (-12 : Int32)) hc rfl zkb_m12 rfl ?_
              refine z_stat (as := [.int (-12 : Int32)]) (r := [.int r33, .ref 4]) hc rfl rfl rfl rfl zco_57 rfl rfl rfl ?_
              refine ok_X6_rankOf (zdp hd rfl) (zwp_mono (zwp_bind h) ?_)
              rintro r42 h
              refine z_po (pc' := 148) (st' := [.int r42, .int r33, .ref 4]) (v := (some (.int r42))) (L' := [(4, some 1, fun _ => o41), (4, some 2, fun _ => (I 4 2)), (4, some 3, fun _ => (I 4 3)), (4, some 4, fun _ => (I 4 4)), (4, some 5, fun _ => (I 4 5)), (5, none, o40), (25, some 2, fun _ => o38), (27, none, o37)]) (K' := []) zco_57 rfl rfl rfl rfl rfl rfl rfl rfl ?_
              refine zjn (G := (fun (j43 : Int32) => pm_ev C_X6_readOperator (d + 1) (pm_call M cost zext d) cost (false, false) 108 0 0 Q 156 [some (.ref 4), some (.ref 1), some (.ref 25), some (.int r32), some (.int r33), some (.int j35)] [.int j43, .ref 4] 0 0 (zS p q I [(4, some 1, fun _ => o41), (4, some 2, fun _ => (I 4 2)), (4, some 3, fun _ => (I 4 3)), (4, some 4, fun _ => (I 4 4)), (4, some 5, fun _ => (I 4 5)), (5, none, o40), (25, some 2, fun _ => o38), (27, none, o37)] J []))) (zwp_bind h) ?_ (fun h => ?_)
              · rintro j43 h
                refine z_virt (as := [.int j43]) (a := 4) (r := []) hc rfl rfl rfl rfl sh_4 rfl zco_50 rfl rfl rfl ?_
                refine ok_X6_beginPart_4 (zdp hd rfl) (zwp_mono (zwp_bind h) ?_)
                rintro ⟨o44, o45, o46⟩ h
                refine z_po (pc' := 159) (st' := []) (v := none) (L' := [(4, some 1, fun _ => o41), (4, some 2, fun _ => (I 4 2)), (4, some 3, fun _ => o45), (4, some 4, fun _ => o44), (4, some 5, fun _ => o46), (5, none, o40), (25, some 2, fun _ => o38), (27, none, o37)]) (K' := []) zco_50 rfl rfl rfl rfl rfl rfl rfl rfl ?_
                refine g_iconst (pc' := 160) (v := (0 : Int32)) hc rfl zki_0 rfl ?_
                replace h := zws h
                exact g_ireturn hc rfl rfl rfl (fun _ => ⟨rfl, rfl⟩) h
              refine g_icmp_gt (pc' := 151) hc rfl rfl (fun hx => ?_) (fun hx => ?_)
              · replace h := zwp_t h hx
                refine g_iconst (pc' := 156) (v := (0 : Int32)) hc rfl zki_0 rfl ?_
                replace h := zws h
                exact h
              · replace h := zwp_f h hx
                refine g_iconst (pc' := 152) (v := (1 : Int32)) hc rfl zki_1 rfl ?_
                refine g_goto hc rfl ?_
                replace h := zws h
                exact h
            · replace h := zwp_f h hx
              refine g_aload_n (pc' := 108)  hc rfl rfl rfl rfl ?_
              refine z_getI (pc' := 111) (v := o39) hc rfl rfl rfl sh_4 rfl rfl rfl ?_
              refine g_if_le (pc' := 114) hc rfl rfl (fun hx => ?_) (fun hx => ?_)
              · replace h := zwp_t h hx
                refine g_aload_n (pc' := 136)  hc rfl rfl rfl rfl ?_
                refine g_iload_n (pc' := 137)  hc rfl rfl rfl ?_
                refine z_virt (as := [.int r32]) (a := 4) (r := []) hc rfl rfl rfl rfl sh_4 rfl zco_58 rfl rfl rfl ?_
                refine ok_X6_push_4 (zdp hd rfl) (zwp_mono (zwp_bind h) ?_)
                rintro ⟨o47, o48⟩ h
                refine z_po (pc' := 140) (st' := []) (v := none) (L' := [(4, some 1, fun _ => o48), (4, some 2, fun _ => (I 4 2)), (4, some 3, fun _ => (I 4 3)), (4, some 4, fun _ => (I 4 4)), (4, some 5, fun _ => (I 4 5)), (5, none, o47), (25, some 2, fun _ => o38), (27, none, o37)]) (K' := []) zco_58 rfl rfl rfl rfl rfl rfl rfl rfl ?_
                refine g_aload_n (pc' := 141)  hc rfl rfl rfl rfl ?_
                refine g_iload (pc' := 143)  hc rfl rfl rfl ?_
                refine g_bipush (pc' := 145) (v := (-12 : Int32)) hc rfl zkb_m12 rfl ?_
                refine z_stat (as := [.int (-12 : Int32)]) (r := [.int r33, .ref 4]) hc rfl rfl rfl rfl zco_57 rfl rfl rfl ?_
                refine ok_X6_rankOf (zdp hd rfl) (zwp_mono (zwp_bind h) ?_)
                rintro r49 h
                refine z_po (pc' := 148) (st' := [.int r49, .int r33, .ref 4]) (v := (some (.int r49))) (L' := [(4, some 1, fun _ => o48), (4, some 2, fun _ => (I 4 2)), (4, some 3, fun _ => (I 4 3)), (4, some 4, fun _ => (I 4 4)), (4, some 5, fun _ => (I 4 5)), (5, none, o47), (25, some 2, fun _ => o38), (27, none, o37)]) (K' := []) zco_57 rfl rfl rfl rfl rfl rfl rfl rfl ?_
                refine zjn (G := (fun (j50 : Int32) => pm_ev C_X6_readOperator (d + 1) (pm_call M cost zext d) cost (false, false) 108 0 0 Q 156 [some (.ref 4), some (.ref 1), some (.ref 25), some (.int r32), some (.int r33), some (.int j35)] [.int j50, .ref 4] 0 0 (zS p q I [(4, some 1, fun _ => o48), (4, some 2, fun _ => (I 4 2)), (4, some 3, fun _ => (I 4 3)), (4, some 4, fun _ => (I 4 4)), (4, some 5, fun _ => (I 4 5)), (5, none, o47), (25, some 2, fun _ => o38), (27, none, o37)] J []))) (zwp_bind h) ?_ (fun h => ?_)
                · rintro j50 h
                  refine z_virt (as := [.int j50]) (a := 4) (r := []) hc rfl rfl rfl rfl sh_4 rfl zco_50 rfl rfl rfl ?_
                  refine ok_X6_beginPart_4 (zdp hd rfl) (zwp_mono (zwp_bind h) ?_)
                  rintro ⟨o51, o52, o53⟩ h
                  refine z_po (pc' := 159) (st' := []) (v := none) (L' := [(4, some 1, fun _ => o48), (4, some 2, fun _ => (I 4 2)), (4, some 3, fun _ => o52), (4, some 4, fun _ => o51), (4, some 5, fun _ => o53), (5, none, o47), (25, some 2, fun _ => o38), (27, none, o37)]) (K' := []) zco_50 rfl rfl rfl rfl rfl rfl rfl rfl ?_
                  refine g_iconst (pc' := 160) (v := (0 : Int32)) hc rfl zki_0 rfl ?_
                  replace h := zws h
                  exact g_ireturn hc rfl rfl rfl (fun _ => ⟨rfl, rfl⟩) h
                refine g_icmp_gt (pc' := 151) hc rfl rfl (fun hx => ?_) (fun hx => ?_)
                · replace h := zwp_t h hx
                  refine g_iconst (pc' := 156) (v := (0 : Int32)) hc rfl zki_0 rfl ?_
                  replace h := zws h
                  exact h
                · replace h := zwp_f h hx
                  refine g_iconst (pc' := 152) (v := (1 : Int32)) hc rfl zki_1 rfl ?_
                  refine g_goto hc rfl ?_
                  replace h := zws h
                  exact h
              · replace h := zwp_f h hx
                refine g_aload_n (pc' := 115)  hc rfl rfl rfl rfl ?_
                refine z_getR (pc' := 118)  hc rfl rfl rfl sh_4 rfl rfl ?_
                refine g_aload_n (pc' := 119)  hc rfl rfl rfl rfl ?_
                refine z_getI (pc' := 122) (v := o39) hc rfl rfl rfl sh_4 rfl rfl rfl ?_
                refine g_iconst (pc' := 123) (v := (1 : Int32)) hc rfl zki_1 rfl ?_
                refine g_isub (pc' := 124)  hc rfl rfl ?_
                have hb := (zwp_bnd h).1
                replace h := (zwp_bnd h).2
                refine z_iaload (pc' := 125) (v := (((I 5)) (o39 - (1 : Int32)).toNatClampNeg)) hc rfl rfl sh_5 hb rfl rfl ?_
                refine z_stat (as := [.int (((I 5)) (o39 - (1 : Int32)).toNatClampNeg)]) (r := []) hc rfl rfl rfl rfl zco_57 rfl rfl rfl ?_
                refine ok_X6_rankOf (zdp hd rfl) (zwp_mono (zwp_bind h) ?_)
                rintro r54 h
                refine z_po (pc' := 128) (st' := [.int r54]) (v := (some (.int r54))) (L' := [(4, some 1, fun _ => o39), (4, some 2, fun _ => (I 4 2)), (4, some 3, fun _ => (I 4 3)), (4, some 4, fun _ => (I 4 4)), (4, some 5, fun _ => (I 4 5)), (5, none, (I 5)), (25, some 2, fun _ => o38), (27, none, o37)]) (K' := []) zco_57 rfl rfl rfl rfl rfl rfl rfl rfl ?_
                refine g_iload (pc' := 130)  hc rfl rfl rfl ?_
                refine g_icmp_ne (pc' := 133) hc rfl rfl (fun hx => ?_) (fun hx => ?_)
                · replace h := zwp_f h hx
                  refine g_aload_n (pc' := 136)  hc rfl rfl rfl rfl ?_
                  refine g_iload_n (pc' := 137)  hc rfl rfl rfl ?_
                  refine z_virt (as := [.int r32]) (a := 4) (r := []) hc rfl rfl rfl rfl sh_4 rfl zco_58 rfl rfl rfl ?_
                  refine ok_X6_push_4 (zdp hd rfl) (zwp_mono (zwp_bind h) ?_)
                  rintro ⟨o55, o56⟩ h
                  refine z_po (pc' := 140) (st' := []) (v := none) (L' := [(4, some 1, fun _ => o56), (4, some 2, fun _ => (I 4 2)), (4, some 3, fun _ => (I 4 3)), (4, some 4, fun _ => (I 4 4)), (4, some 5, fun _ => (I 4 5)), (5, none, o55), (25, some 2, fun _ => o38), (27, none, o37)]) (K' := []) zco_58 rfl rfl rfl rfl rfl rfl rfl rfl ?_
                  refine g_aload_n (pc' := 141)  hc rfl rfl rfl rfl ?_
                  refine g_iload (pc' := 143)  hc rfl rfl rfl ?_
                  refine g_bipush (pc' := 145) (v := (-12 : Int32)) hc rfl zkb_m12 rfl ?_
                  refine z_stat (as := [.int (-12 : Int32)]) (r := [.int r33, .ref 4]) hc rfl rfl rfl rfl zco_57 rfl rfl rfl ?_
                  refine ok_X6_rankOf (zdp hd rfl) (zwp_mono (zwp_bind h) ?_)
                  rintro r57 h
                  refine z_po (pc' := 148) (st' := [.int r57, .int r33, .ref 4]) (v := (some (.int r57))) (L' := [(4, some 1, fun _ => o56), (4, some 2, fun _ => (I 4 2)), (4, some 3, fun _ => (I 4 3)), (4, some 4, fun _ => (I 4 4)), (4, some 5, fun _ => (I 4 5)), (5, none, o55), (25, some 2, fun _ => o38), (27, none, o37)]) (K' := []) zco_57 rfl rfl rfl rfl rfl rfl rfl rfl ?_
                  refine zjn (G := (fun (j58 : Int32) => pm_ev C_X6_readOperator (d + 1) (pm_call M cost zext d) cost (false, false) 108 0 0 Q 156 [some (.ref 4), some (.ref 1), some (.ref 25), some (.int r32), some (.int r33), some (.int j35)] [.int j58, .ref 4] 0 0 (zS p q I [(4, some 1, fun _ => o56), (4, some 2, fun _ => (I 4 2)), (4, some 3, fun _ => (I 4 3)), (4, some 4, fun _ => (I 4 4)), (4, some 5, fun _ => (I 4 5)), (5, none, o55), (25, some 2, fun _ => o38), (27, none, o37)] J []))) (zwp_bind h) ?_ (fun h => ?_)
                  · rintro j58 h
                    refine z_virt (as := [.int j58]) (a := 4) (r := []) hc rfl rfl rfl rfl sh_4 rfl zco_50 rfl rfl rfl ?_
                    refine ok_X6_beginPart_4 (zdp hd rfl) (zwp_mono (zwp_bind h) ?_)
                    rintro ⟨o59, o60, o61⟩ h
                    refine z_po (pc' := 159) (st' := []) (v := none) (L' := [(4, some 1, fun _ => o56), (4, some 2, fun _ => (I 4 2)), (4, some 3, fun _ => o60), (4, some 4, fun _ => o59), (4, some 5, fun _ => o61), (5, none, o55), (25, some 2, fun _ => o38), (27, none, o37)]) (K' := []) zco_50 rfl rfl rfl rfl rfl rfl rfl rfl ?_
                    refine g_iconst (pc' := 160) (v := (0 : Int32)) hc rfl zki_0 rfl ?_
                    replace h := zws h
                    exact g_ireturn hc rfl rfl rfl (fun _ => ⟨rfl, rfl⟩) h
                  refine g_icmp_gt (pc' := 151) hc rfl rfl (fun hx => ?_) (fun hx => ?_)
                  · replace h := zwp_t h hx
                    refine g_iconst (pc' := 156) (v := (0 : Int32)) hc rfl zki_0 rfl ?_
                    replace h := zws h
                    exact h
                  · replace h := zwp_f h hx
                    refine g_iconst (pc' := 152) (v := (1 : Int32)) hc rfl zki_1 rfl ?_
                    refine g_goto hc rfl ?_
                    replace h := zws h
                    exact h
                · replace h := zwp_t h hx
                  refine g_iconst (pc' := 134) (v := (1 : Int32)) hc rfl zki_1 rfl ?_
                  replace h := zws h
                  exact g_ireturn hc rfl rfl rfl (fun _ => ⟨rfl, rfl⟩) h
          refine g_if_eq (pc' := 90) hc rfl rfl (fun hx => ?_) (fun hx => ?_)
          · replace h := zwp_t h hx
            refine g_iload (pc' := 99)  hc rfl rfl rfl ?_
            replace h := zws h
            exact h
          · replace h := zwp_f h hx
            refine g_iload (pc' := 92)  hc rfl rfl rfl ?_
            refine g_iconst (pc' := 93) (v := (1 : Int32)) hc rfl zki_1 rfl ?_
            refine g_iadd (pc' := 94)  hc rfl rfl ?_
            refine g_goto hc rfl ?_
            replace h := zws h
            exact h
        refine g_icmp_ne (pc' := 76) hc rfl rfl (fun hx => ?_) (fun hx => ?_)
        · replace h := zwp_f h hx
          refine g_iconst (pc' := 81) (v := (0 : Int32)) hc rfl zki_0 rfl ?_
          replace h := zws h
          exact h
        · replace h := zwp_t h hx
          refine g_iconst (pc' := 77) (v := (1 : Int32)) hc rfl zki_1 rfl ?_
          refine g_goto hc rfl ?_
          replace h := zws h
          exact h
      · replace h := zwp_t h hx
        refine g_iconst (pc' := 59) (v := (1 : Int32)) hc rfl zki_1 rfl ?_
        replace h := zws h
        exact g_ireturn hc rfl rfl rfl (fun _ => ⟨rfl, rfl⟩) h
    · replace h := zwp_f h hx
      refine g_aload_n (pc' := 17)  hc rfl rfl rfl rfl ?_
      refine g_aload_n (pc' := 18)  hc rfl rfl rfl rfl ?_
      refine g_iconst (pc' := 19) (v := (0 : Int32)) hc rfl zki_0 rfl ?_
      refine z_virt (as := [.ref 25, .int (0 : Int32)]) (a := 4) (r := []) hc rfl rfl rfl rfl sh_4 rfl zco_59 rfl rfl rfl ?_
      refine ok_X6_release_4_25 (zdp hd rfl) (zwp_mono (zwp_bind h) ?_)
      rintro ⟨o62, o63, o64⟩ h
      refine z_po (pc' := 22) (st' := []) (v := none) (L' := [(4, some 1, fun _ => o64), (4, some 2, fun _ => (I 4 2)), (4, some 3, fun _ => (I 4 3)), (4, some 4, fun _ => (I 4 4)), (4, some 5, fun _ => (I 4 5)), (5, none, (I 5)), (25, some 2, fun _ => o63), (27, none, o62)]) (K' := []) zco_59 rfl rfl rfl rfl rfl rfl rfl rfl ?_
      refine g_aload_n (pc' := 23)  hc rfl rfl rfl rfl ?_
      refine g_iconst (pc' := 24) (v := (0 : Int32)) hc rfl zki_0 rfl ?_
      refine g_aload_n (pc' := 25)  hc rfl rfl rfl rfl ?_
      refine z_getI (pc' := 28) (v := o64) hc rfl rfl rfl sh_4 rfl rfl rfl ?_
      refine g_iconst (pc' := 29) (v := (1 : Int32)) hc rfl zki_1 rfl ?_
      refine g_isub (pc' := 30)  hc rfl rfl ?_
      refine z_max (pc' := 33)  hc rfl rfl (zdq hd rfl) rfl rfl ?_
      refine z_putI (pc' := 36) (L' := [(4, some 1, fun _ => (if (0 : Int32) < (o64 - (1 : Int32)) then (o64 - (1 : Int32)) else (0 : Int32))), (4, some 2, fun _ => (I 4 2)), (4, some 3, fun _ => (I 4 3)), (4, some 4, fun _ => (I 4 4)), (4, some 5, fun _ => (I 4 5)), (5, none, (I 5)), (25, some 2, fun _ => o63), (27, none, o62)]) hc rfl rfl rfl sh_4 rfl zft_6_1 rfl (fun h => Bool.noConfusion h) rfl rfl rfl ?_
      refine g_aload_n (pc' := 37)  hc rfl rfl rfl rfl ?_
      refine g_dup (pc' := 38)  hc rfl rfl rfl ?_
      refine z_getI (pc' := 41) (v := (I 4 2)) hc rfl rfl rfl sh_4 rfl rfl rfl ?_
      refine g_iconst (pc' := 42) (v := (1 : Int32)) hc rfl zki_1 rfl ?_
      refine g_isub (pc' := 43)  hc rfl rfl ?_
      refine z_putI (pc' := 46) (L' := [(4, some 1, fun _ => (if (0 : Int32) < (o64 - (1 : Int32)) then (o64 - (1 : Int32)) else (0 : Int32))), (4, some 2, fun _ => (((I 4 2)) - (1 : Int32))), (4, some 3, fun _ => (I 4 3)), (4, some 4, fun _ => (I 4 4)), (4, some 5, fun _ => (I 4 5)), (5, none, (I 5)), (25, some 2, fun _ => o63), (27, none, o62)]) hc rfl rfl rfl sh_4 rfl zft_6_2 rfl (fun h => Bool.noConfusion h) rfl rfl rfl ?_
      refine g_iconst (pc' := 47) (v := (0 : Int32)) hc rfl zki_0 rfl ?_
      replace h := zws h
      exact g_ireturn hc rfl rfl rfl (fun _ => ⟨rfl, rfl⟩) h
set_option maxRecDepth 4000 in
theorem ok_X6_read_4_1_25 {p q : Nat} {I : pI} {J : pJ} {a3 : Int32} {Q : pQ} {d : Nat} (hd : 10 ≤ d) (h : zwp (f_X6_read a3 (I 4 4) (I 4 2) (I 4 3) (I 4 5) (I 27) (I 25 2) (I 2) (I 1 4) (I 1 5) (I 1 2) (I 1 6) (I 1 3) (I 5) (I 4 1)) (fun w => match w with | (r, o0, o1, o2, o3, o4, o5, o6, o7, o8, o9, o10, o11) => Q (.inl (some (.int r))) (zS p q I [(1, some 3, fun _ => o9), (1, some 4, fun _ => o6), (1, some 5, fun _ => o7), (1, some 6, fun _ => o8), (4, some 1, fun _ => o11), (4, some 2, fun _ => o1), (4, some 3, fun _ => o2), (4, some 4, fun _ => o0), (4, some 5, fun _ => o3), (5, none, o10), (25, some 2, fun _ => o5), (27, none, o4)] J []))) : pm_call M cost zext d 48 [.ref 4, .ref 1, .ref 25, .int a3] (pm_st 108 (shp p q) I J) Q := by
  obtain ⟨d, rfl⟩ := zd1 hd rfl
  have hc := pm_call_m (M := M) (cost := cost) zext_m d
  refine z_in (L := [(1, some 3, fun _ => (I 1 3)), (1, some 4, fun _ => (I 1 4)), (1, some 5, fun _ => (I 1 5)), (1, some 6, fun _ => (I 1 6)), (4, some 1, fun _ => (I 4 1)), (4, some 2, fun _ => (I 4 2)), (4, some 3, fun _ => (I 4 3)), (4, some 4, fun _ => (I 4 4)), (4, some 5, fun _ => (I 4 5)), (5, none, (I 5)), (25, some 2, fun _ => (I 25 2)), (27, none, (I 27))]) (K := []) (ls := [some (.ref 4), some (.ref 1), some (.ref 25), some (.int a3), none, none]) zmt_48 zco_48 rfl rfl (zid_s (zid_s (zid_s (zid_s (zid_s (zid_s (zid_s (zid_s (zid_s (zid_a (zid_s (zid_a zid_n)))))))))))) zid_n ?_
  delta f_X6_read at h
  refine g_aload_n (pc' := 1)  hc rfl rfl rfl rfl ?_
  refine z_virt (as := []) (a := 25) (r := []) hc rfl rfl rfl rfl sh_25 rfl zco_43 rfl rfl rfl ?_
  refine ok_X5_isTold_25 (zdp hd rfl) (zwp_mono (zwp_bind h) ?_)
  rintro r1 h
  refine z_po (pc' := 4) (st' := [.int r1]) (v := (some (.int r1))) (L' := [(1, some 3, fun _ => (I 1 3)), (1, some 4, fun _ => (I 1 4)), (1, some 5, fun _ => (I 1 5)), (1, some 6, fun _ => (I 1 6)), (4, some 1, fun _ => (I 4 1)), (4, some 2, fun _ => (I 4 2)), (4, some 3, fun _ => (I 4 3)), (4, some 4, fun _ => (I 4 4)), (4, some 5, fun _ => (I 4 5)), (5, none, (I 5)), (25, some 2, fun _ => (I 25 2)), (27, none, (I 27))]) (K' := []) zco_43 rfl rfl rfl rfl rfl rfl rfl rfl ?_
  refine g_if_eq (pc' := 7) hc rfl rfl (fun hx => ?_) (fun hx => ?_)
  · replace h := zwp_t h hx
    refine g_aload_n (pc' := 10)  hc rfl rfl rfl rfl ?_
    refine g_iconst (pc' := 11) (v := (0 : Int32)) hc rfl zki_0 rfl ?_
    refine z_putI (pc' := 14) (L' := [(1, some 3, fun _ => (I 1 3)), (1, some 4, fun _ => (I 1 4)), (1, some 5, fun _ => (I 1 5)), (1, some 6, fun _ => (I 1 6)), (4, some 1, fun _ => (0 : Int32)), (4, some 2, fun _ => (I 4 2)), (4, some 3, fun _ => (I 4 3)), (4, some 4, fun _ => (I 4 4)), (4, some 5, fun _ => (I 4 5)), (5, none, (I 5)), (25, some 2, fun _ => (I 25 2)), (27, none, (I 27))]) hc rfl rfl rfl sh_4 rfl zft_6_1 rfl (fun h => Bool.noConfusion h) rfl rfl rfl ?_
    refine g_aload_n (pc' := 15)  hc rfl rfl rfl rfl ?_
    refine g_iconst (pc' := 16) (v := (0 : Int32)) hc rfl zki_0 rfl ?_
    refine z_putI (pc' := 19) (L' := [(1, some 3, fun _ => (I 1 3)), (1, some 4, fun _ => (I 1 4)), (1, some 5, fun _ => (I 1 5)), (1, some 6, fun _ => (I 1 6)), (4, some 1, fun _ => (0 : Int32)), (4, some 2, fun _ => (0 : Int32)), (4, some 3, fun _ => (I 4 3)), (4, some 4, fun _ => (I 4 4)), (4, some 5, fun _ => (I 4 5)), (5, none, (I 5)), (25, some 2, fun _ => (I 25 2)), (27, none, (I 27))]) hc rfl rfl rfl sh_4 rfl zft_6_2 rfl (fun h => Bool.noConfusion h) rfl rfl rfl ?_
    refine g_aload_n (pc' := 20)  hc rfl rfl rfl rfl ?_
    refine g_iconst (pc' := 21) (v := (1 : Int32)) hc rfl zki_1 rfl ?_
    refine z_virt (as := [.int (1 : Int32)]) (a := 4) (r := []) hc rfl rfl rfl rfl sh_4 rfl zco_50 rfl rfl rfl ?_
    refine ok_X6_beginPart_4 (zdp hd rfl) (zwp_mono (zwp_bind h) ?_)
    rintro ⟨o2, o3, o4⟩ h
    refine z_po (pc' := 24) (st' := []) (v := none) (L' := [(1, some 3, fun _ => (I 1 3)), (1, some 4, fun _ => (I 1 4)), (1, some 5, fun _ => (I 1 5)), (1, some 6, fun _ => (I 1 6)), (4, some 1, fun _ => (0 : Int32)), (4, some 2, fun _ => (0 : Int32)), (4, some 3, fun _ => o3), (4, some 4, fun _ => o2), (4, some 5, fun _ => o4), (5, none, (I 5)), (25, some 2, fun _ => (I 25 2)), (27, none, (I 27))]) (K' := []) zco_50 rfl rfl rfl rfl rfl rfl rfl rfl ?_
    refine g_aload_n (pc' := 25)  hc rfl rfl rfl rfl ?_
    refine z_virt (as := []) (a := 1) (r := []) hc rfl rfl rfl rfl sh_1 rfl zco_83 rfl rfl rfl ?_
    refine ok_X9_advance_1 (zdp hd rfl) (zwp_mono (zwp_bind h) ?_)
    rintro ⟨o5, o6, o7, o8⟩ h
    refine z_po (pc' := 28) (st' := []) (v := none) (L' := [(1, some 3, fun _ => o8), (1, some 4, fun _ => o5), (1, some 5, fun _ => o6), (1, some 6, fun _ => o7), (4, some 1, fun _ => (0 : Int32)), (4, some 2, fun _ => (0 : Int32)), (4, some 3, fun _ => o3), (4, some 4, fun _ => o2), (4, some 5, fun _ => o4), (5, none, (I 5)), (25, some 2, fun _ => (I 25 2)), (27, none, (I 27))]) (K' := []) zco_83 rfl rfl rfl rfl rfl rfl rfl rfl ?_
    refine g_iconst (pc' := 29) (v := (0 : Int32)) hc rfl zki_0 rfl ?_
    refine g_istore (pc' := 31) (ls1 := [some (.ref 4), some (.ref 1), some (.ref 25), some (.int a3), some (.int (0 : Int32)), none]) hc rfl (zlt rfl) rfl rfl ?_
    refine g_iconst (pc' := 32) (v := (0 : Int32)) hc rfl zki_0 rfl ?_
    refine g_istore (pc' := 34) (ls1 := [some (.ref 4), some (.ref 1), some (.ref 25), some (.int a3), some (.int (0 : Int32)), some (.int (0 : Int32))]) hc rfl (zlt rfl) rfl rfl ?_
    refine zjn (G := (fun (g : Int32 × Int32 × Int32 × Int32 × Int32 × (Nat → Int32) × Int32 × Int32 × Int32 × Int32 × Int32 × (Nat → Int32) × Int32) => match g with | (y23, y25, y26, y27, y28, y29, y30, y31, y32, y33, y34, y35, y36) => ∀ z24 : Option Value, znl z24 = true → pm_ev C_X6_read (d + 1) (pm_call M cost zext d) cost (false, false) 108 0 0 Q 95 [some (.ref 4), some (.ref 1), some (.ref 25), some (.int a3), some (.int y23), z24] [] 0 0 (zS p q I [(1, some 3, fun _ => y34), (1, some 4, fun _ => y31), (1, some 5, fun _ => y32), (1, some 6, fun _ => y33), (4, some 1, fun _ => y36), (4, some 2, fun _ => y26), (4, some 3, fun _ => y27), (4, some 4, fun _ => y25), (4, some 5, fun _ => y28), (5, none, y35), (25, some 2, fun _ => y30), (27, none, y29)] J []))) (zwp_bind h) ?_ (fun h => ?_)
    · rintro ⟨y23, y25, y26, y27, y28, y29, y30, y31, y32, y33, y34, y35, y36⟩ h z24 hz24
      refine g_iload (pc' := 97)  hc rfl rfl rfl ?_
      refine g_if_ne (pc' := 100) hc rfl rfl (fun hx => ?_) (fun hx => ?_)
      · replace h := zwp_f h hx
        refine g_iload (pc' := 108)  hc rfl rfl rfl ?_
        replace h := zws h
        exact g_ireturn hc rfl rfl rfl (fun _ => ⟨rfl, rfl⟩) h
      · replace h := zwp_t h hx
        refine g_aload_n (pc' := 101)  hc rfl rfl rfl rfl ?_
        refine g_aload_n (pc' := 102)  hc rfl rfl rfl rfl ?_
        refine g_iconst (pc' := 103) (v := (0 : Int32)) hc rfl zki_0 rfl ?_
        refine z_virt (as := [.ref 25, .int (0 : Int32)]) (a := 4) (r := []) hc rfl rfl rfl rfl sh_4 rfl zco_59 rfl rfl rfl ?_
        refine ok_X6_release_4_25 (zdp hd rfl) (zwp_mono (zwp_bind h) ?_)
        rintro ⟨o37, o38, o39⟩ h
        refine z_po (pc' := 106) (st' := []) (v := none) (L' := [(1, some 3, fun _ => y34), (1, some 4, fun _ => y31), (1, some 5, fun _ => y32), (1, some 6, fun _ => y33), (4, some 1, fun _ => o39), (4, some 2, fun _ => y26), (4, some 3, fun _ => y27), (4, some 4, fun _ => y25), (4, some 5, fun _ => y28), (5, none, y35), (25, some 2, fun _ => o38), (27, none, o37)]) (K' := []) zco_59 rfl rfl rfl rfl rfl rfl rfl rfl ?_
        refine g_iload (pc' := 108)  hc rfl rfl rfl ?_
        replace h := zws h
        exact g_ireturn hc rfl rfl rfl (fun _ => ⟨rfl, rfl⟩) h
    refine zitr_ev (G := (fun (g : Int32 × Int32 × Int32 × Int32 × Int32 × Int32 × (Nat → Int32) × Int32 × Int32 × Int32 × Int32 × Int32 × (Nat → Int32) × Int32) => match g with | (x9, x10, x11, x12, x13, x14, x15, x16, x17, x18, x19, x20, x21, x22) => pm_ev C_X6_read (d + 1) (pm_call M cost zext d) cost (false, false) 108 0 0 Q 34 [some (.ref 4), some (.ref 1), some (.ref 25), some (.int a3), some (.int x9), some (.int x10)] [] 0 0 (zS p q I [(1, some 3, fun _ => x20), (1, some 4, fun _ => x17), (1, some 5, fun _ => x18), (1, some 6, fun _ => x19), (4, some 1, fun _ => x22), (4, some 2, fun _ => x12), (4, some 3, fun _ => x13), (4, some 4, fun _ => x11), (4, some 5, fun _ => x14), (5, none, x21), (25, some 2, fun _ => x16), (27, none, x15)] J []))) ?_ zFU ((0 : Int32), (0 : Int32), o2, (0 : Int32), o3, o4, (I 27), (I 25 2), o5, o6, o7, o8, (I 5), (0 : Int32)) h
    rintro ⟨x9, x10, x11, x12, x13, x14, x15, x16, x17, x18, x19, x20, x21, x22⟩ h
    refine g_iload (pc' := 36)  hc rfl rfl rfl ?_
    refine g_sipush (pc' := 39) (v := (700 : Int32)) hc rfl zks_700 rfl ?_
    refine g_icmp_ge (pc' := 42) hc rfl rfl (fun hx => ?_) (fun hx => ?_)
    · replace h := zwp_t h hx
      replace h := zwp_r h
      exact h (some (.int x10)) rfl
    · replace h := zwp_f h hx
      refine g_iload (pc' := 44)  hc rfl rfl rfl ?_
      refine g_if_ne (pc' := 47) hc rfl rfl (fun hx => ?_) (fun hx => ?_)
      · replace h := zwp_f h hx
        replace h := zwp_r h
        exact h (some (.int x10)) rfl
      · replace h := zwp_t h hx
        refine g_aload_n (pc' := 48)  hc rfl rfl rfl rfl ?_
        refine g_aload_n (pc' := 49)  hc rfl rfl rfl rfl ?_
        refine z_virt (as := [.ref 1]) (a := 4) (r := []) hc rfl rfl rfl rfl sh_4 rfl zco_49 rfl rfl rfl ?_
        refine ok_X6_isEnd_4_1 (zdp hd rfl) (zwp_mono (zwp_bind h) ?_)
        rintro r40 h
        refine z_po (pc' := 52) (st' := [.int r40]) (v := (some (.int r40))) (L' := [(1, some 3, fun _ => x20), (1, some 4, fun _ => x17), (1, some 5, fun _ => x18), (1, some 6, fun _ => x19), (4, some 1, fun _ => x22), (4, some 2, fun _ => x12), (4, some 3, fun _ => x13), (4, some 4, fun _ => x11), (4, some 5, fun _ => x14), (5, none, x21), (25, some 2, fun _ => x16), (27, none, x15)]) (K' := []) zco_49 rfl rfl rfl rfl rfl rfl rfl rfl ?_
        refine g_if_ne (pc' := 55) hc rfl rfl (fun hx => ?_) (fun hx => ?_)
        · replace h := zwp_f h hx
          replace h := zwp_r h
          exact h (some (.int x10)) rfl
        · replace h := zwp_t h hx
          refine g_aload_n (pc' := 56)  hc rfl rfl rfl rfl ?_
          refine z_getI (pc' := 59) (v := x14) hc rfl rfl rfl sh_4 rfl rfl rfl ?_
          refine zjn (G := (fun (g : Int32 × Int32 × Int32 × Int32 × Int32 × (Nat → Int32) × Int32 × (Nat → Int32) × Int32) => match g with | (j41, j42, j43, j44, j45, j46, j47, j48, j49) => pm_ev C_X6_read (d + 1) (pm_call M cost zext d) cost (false, false) 108 0 0 Q 78 [some (.ref 4), some (.ref 1), some (.ref 25), some (.int a3), some (.int x9), some (.int x10)] [.int j41] 0 0 (zS p q I [(1, some 3, fun _ => x20), (1, some 4, fun _ => x17), (1, some 5, fun _ => x18), (1, some 6, fun _ => x19), (4, some 1, fun _ => j49), (4, some 2, fun _ => j43), (4, some 3, fun _ => j44), (4, some 4, fun _ => j42), (4, some 5, fun _ => j45), (5, none, j48), (25, some 2, fun _ => j47), (27, none, j46)] J []))) (zwp_bind h) ?_ (fun h => ?_)
          · rintro ⟨j41, j42, j43, j44, j45, j46, j47, j48, j49⟩ h
            refine g_istore (pc' := 80) (ls1 := [some (.ref 4), some (.ref 1), some (.ref 25), some (.int a3), some (.int j41), some (.int x10)]) hc rfl (zlt rfl) rfl rfl ?_
            refine g_iload (pc' := 82)  hc rfl rfl rfl ?_
            refine g_if_ne (pc' := 85) hc rfl rfl (fun hx => ?_) (fun hx => ?_)
            · replace h := zwp_f h hx
              refine g_iinc (pc' := 92) (ls1 := [some (.ref 4), some (.ref 1), some (.ref 25), some (.int a3), some (.int j41), some (.int (x10 + (1 : Int32)))]) hc rfl rfl zki_1 (zlt rfl) rfl rfl ?_
              refine g_goto hc rfl ?_
              replace h := zwp_l h
              exact h
            · replace h := zwp_t h hx
              refine g_aload_n (pc' := 86)  hc rfl rfl rfl rfl ?_
              refine z_virt (as := []) (a := 1) (r := []) hc rfl rfl rfl rfl sh_1 rfl zco_83 rfl rfl rfl ?_
              refine ok_X9_advance_1 (zdp hd rfl) (zwp_mono (zwp_bind h) ?_)
              rintro ⟨o50, o51, o52, o53⟩ h
              refine z_po (pc' := 89) (st' := []) (v := none) (L' := [(1, some 3, fun _ => o53), (1, some 4, fun _ => o50), (1, some 5, fun _ => o51), (1, some 6, fun _ => o52), (4, some 1, fun _ => j49), (4, some 2, fun _ => j43), (4, some 3, fun _ => j44), (4, some 4, fun _ => j42), (4, some 5, fun _ => j45), (5, none, j48), (25, some 2, fun _ => j47), (27, none, j46)]) (K' := []) zco_83 rfl rfl rfl rfl rfl rfl rfl rfl ?_
              refine g_iinc (pc' := 92) (ls1 := [some (.ref 4), some (.ref 1), some (.ref 25), some (.int a3), some (.int j41), some (.int (x10 + (1 : Int32)))]) hc rfl rfl zki_1 (zlt rfl) rfl rfl ?_
              refine g_goto hc rfl ?_
              replace h := zwp_l h
              exact h
          refine g_if_eq (pc' := 62) hc rfl rfl (fun hx => ?_) (fun hx => ?_)
          · replace h := zwp_t h hx
            refine g_aload_n (pc' := 73)  hc rfl rfl rfl rfl ?_
            refine g_aload_n (pc' := 74)  hc rfl rfl rfl rfl ?_
            refine g_aload_n (pc' := 75)  hc rfl rfl rfl rfl ?_
            refine z_virt (as := [.ref 1, .ref 25]) (a := 4) (r := []) hc rfl rfl rfl rfl sh_4 rfl zco_55 rfl rfl rfl ?_
            refine ok_X6_readOperator_4_1_25 (zdp hd rfl) (zwp_mono (zwp_bind h) ?_)
            rintro ⟨r62, o54, o55, o56, o57, o58, o59, o60, o61⟩ h
            refine z_po (pc' := 78) (st' := [.int r62]) (v := (some (.int r62))) (L' := [(1, some 3, fun _ => x20), (1, some 4, fun _ => x17), (1, some 5, fun _ => x18), (1, some 6, fun _ => x19), (4, some 1, fun _ => o61), (4, some 2, fun _ => o55), (4, some 3, fun _ => o56), (4, some 4, fun _ => o54), (4, some 5, fun _ => o57), (5, none, o60), (25, some 2, fun _ => o59), (27, none, o58)]) (K' := []) zco_55 rfl rfl rfl rfl rfl rfl rfl rfl ?_
            replace h := zws h
            exact h
          · replace h := zwp_f h hx
            refine g_aload_n (pc' := 63)  hc rfl rfl rfl rfl ?_
            refine g_aload_n (pc' := 64)  hc rfl rfl rfl rfl ?_
            refine g_aload_n (pc' := 65)  hc rfl rfl rfl rfl ?_
            refine g_iload_n (pc' := 66)  hc rfl rfl rfl ?_
            refine z_virt (as := [.ref 1, .ref 25, .int a3]) (a := 4) (r := []) hc rfl rfl rfl rfl sh_4 rfl zco_51 rfl rfl rfl ?_
            refine ok_X6_readPart_4_1_25 (zdp hd rfl) (zwp_mono (zwp_bind h) ?_)
            rintro ⟨r71, o63, o64, o65, o66, o67, o68, o69, o70⟩ h
            refine z_po (pc' := 69) (st' := [.int r71]) (v := (some (.int r71))) (L' := [(1, some 3, fun _ => x20), (1, some 4, fun _ => x17), (1, some 5, fun _ => x18), (1, some 6, fun _ => x19), (4, some 1, fun _ => o70), (4, some 2, fun _ => o64), (4, some 3, fun _ => o65), (4, some 4, fun _ => o63), (4, some 5, fun _ => o66), (5, none, o69), (25, some 2, fun _ => o68), (27, none, o67)]) (K' := []) zco_51 rfl rfl rfl rfl rfl rfl rfl rfl ?_
            refine g_goto hc rfl ?_
            replace h := zws h
            exact h
  · replace h := zwp_f h hx
    refine g_iconst (pc' := 8) (v := (5 : Int32)) hc rfl zki_5 rfl ?_
    replace h := zws h
    exact g_ireturn hc rfl rfl rfl (fun _ => ⟨rfl, rfl⟩) h
set_option maxRecDepth 4000 in
theorem ok_X5_isTold_28 {p q : Nat} {I : pI} {J : pJ} {Q : pQ} {d : Nat} (hd : 1 ≤ d) (h : zwp (f_X5_isTold (I 28 2)) (fun r => Q (.inl (some (.int r))) (zS p q I [] J []))) : pm_call M cost zext d 43 [.ref 28] (pm_st 108 (shp p q) I J) Q := by
  obtain ⟨d, rfl⟩ := zd1 hd rfl
  have hc := pm_call_m (M := M) (cost := cost) zext_m d
  refine z_in (L := []) (K := []) (ls := [some (.ref 28)]) zmt_43 zco_43 rfl rfl zid_n zid_n ?_
  delta f_X5_isTold at h
  refine g_aload_n (pc' := 1)  hc rfl rfl rfl rfl ?_
  refine z_getI (pc' := 4) (v := (I 28 2)) hc rfl rfl rfl sh_28 rfl rfl rfl ?_
  refine g_if_le (pc' := 7) hc rfl rfl (fun hx => ?_) (fun hx => ?_)
  · replace h := zwp_t h hx
    refine g_iconst (pc' := 12) (v := (0 : Int32)) hc rfl zki_0 rfl ?_
    replace h := zws h
    exact g_ireturn hc rfl rfl rfl (fun _ => ⟨rfl, rfl⟩) h
  · replace h := zwp_f h hx
    refine g_iconst (pc' := 8) (v := (1 : Int32)) hc rfl zki_1 rfl ?_
    refine g_goto hc rfl ?_
    replace h := zws h
    exact g_ireturn hc rfl rfl rfl (fun _ => ⟨rfl, rfl⟩) h
set_option maxRecDepth 4000 in
theorem ok_X5_add_28 {p q : Nat} {I : pI} {J : pJ} {a1 : Int32} {Q : pQ} {d : Nat} (hd : 1 ≤ d) (h : zwp (f_X5_add a1 (I 30) (I 28 2)) (fun w => match w with | (o0, o1) => Q (.inl none) (zS p q I [(28, some 2, fun _ => o1), (30, none, o0)] J []))) : pm_call M cost zext d 44 [.ref 28, .int a1] (pm_st 108 (shp p q) I J) Q := by
  obtain ⟨d, rfl⟩ := zd1 hd rfl
  have hc := pm_call_m (M := M) (cost := cost) zext_m d
  refine z_in (L := [(28, some 2, fun _ => (I 28 2)), (30, none, (I 30))]) (K := []) (ls := [some (.ref 28), some (.int a1)]) zmt_44 zco_44 rfl rfl (zid_s (zid_a zid_n)) zid_n ?_
  delta f_X5_add at h
  refine g_aload_n (pc' := 1)  hc rfl rfl rfl rfl ?_
  refine z_getI (pc' := 4) (v := (I 28 2)) hc rfl rfl rfl sh_28 rfl rfl rfl ?_
  refine g_sipush (pc' := 7) (v := (700 : Int32)) hc rfl zks_700 rfl ?_
  refine g_icmp_ge (pc' := 10) hc rfl rfl (fun hx => ?_) (fun hx => ?_)
  · replace h := zwp_t h hx
    replace h := zws h
    exact g_return hc rfl rfl (fun _ => ⟨rfl, rfl⟩) h
  · replace h := zwp_f h hx
    refine g_aload_n (pc' := 11)  hc rfl rfl rfl rfl ?_
    refine z_getR (pc' := 14)  hc rfl rfl rfl sh_28 rfl rfl ?_
    refine g_aload_n (pc' := 15)  hc rfl rfl rfl rfl ?_
    refine z_getI (pc' := 18) (v := (I 28 2)) hc rfl rfl rfl sh_28 rfl rfl rfl ?_
    refine g_iload_n (pc' := 19)  hc rfl rfl rfl ?_
    have hb := (zwp_bnd h).1
    replace h := (zwp_bnd h).2
    refine z_iastore (pc' := 20) (g := (I 30)) (L' := [(28, some 2, fun _ => (I 28 2)), (30, none, (upd ((I 30)) ((I 28 2)).toNatClampNeg a1))]) hc rfl rfl sh_30 hb rfl rfl rfl rfl ?_
    refine g_aload_n (pc' := 21)  hc rfl rfl rfl rfl ?_
    refine g_dup (pc' := 22)  hc rfl rfl rfl ?_
    refine z_getI (pc' := 25) (v := (I 28 2)) hc rfl rfl rfl sh_28 rfl rfl rfl ?_
    refine g_iconst (pc' := 26) (v := (1 : Int32)) hc rfl zki_1 rfl ?_
    refine g_iadd (pc' := 27)  hc rfl rfl ?_
    refine z_putI (pc' := 30) (L' := [(28, some 2, fun _ => (((I 28 2)) + (1 : Int32))), (30, none, (upd ((I 30)) ((I 28 2)).toNatClampNeg a1))]) hc rfl rfl rfl sh_28 rfl zft_5_2 rfl (fun h => Bool.noConfusion h) rfl rfl rfl ?_
    replace h := zws h
    exact g_return hc rfl rfl (fun _ => ⟨rfl, rfl⟩) h
set_option maxRecDepth 4000 in
theorem ok_X6_readNumber_4_1_28 {p q : Nat} {I : pI} {J : pJ} {Q : pQ} {d : Nat} (hd : 2 ≤ d) (h : zwp (f_X6_readNumber (I 4 5) (I 30) (I 28 2) (I 1 4) (I 1 5) (I 1 6) (I 1 3)) (fun w => match w with | (r, o0, o1, o2) => Q (.inl (some (.int r))) (zS p q I [(4, some 5, fun _ => o0), (28, some 2, fun _ => o2), (30, none, o1)] J []))) : pm_call M cost zext d 52 [.ref 4, .ref 1, .ref 28] (pm_st 108 (shp p q) I J) Q := by
  obtain ⟨d, rfl⟩ := zd1 hd rfl
  have hc := pm_call_m (M := M) (cost := cost) zext_m d
  refine z_in (L := [(4, some 5, fun _ => (I 4 5)), (28, some 2, fun _ => (I 28 2)), (30, none, (I 30))]) (K := []) (ls := [some (.ref 4), some (.ref 1), some (.ref 28), none]) zmt_52 zco_52 rfl rfl (zid_s (zid_s (zid_a zid_n))) zid_n ?_
  delta f_X6_readNumber at h
  refine g_aload_n (pc' := 1)  hc rfl rfl rfl rfl ?_
  refine g_iconst (pc' := 2) (v := (0 : Int32)) hc rfl zki_0 rfl ?_
  refine g_sipush (pc' := 5) (v := (9999 : Int32)) hc rfl zks_9999 rfl ?_
  refine z_virt (as := [.int (0 : Int32), .int (9999 : Int32)]) (a := 1) (r := []) hc rfl rfl rfl rfl sh_1 rfl zco_87 rfl rfl rfl ?_
  refine ok_X9_numberFault_1 (zdp hd rfl) (zwp_mono (zwp_bind h) ?_)
  rintro r1 h
  refine z_po (pc' := 8) (st' := [.int r1]) (v := (some (.int r1))) (L' := [(4, some 5, fun _ => (I 4 5)), (28, some 2, fun _ => (I 28 2)), (30, none, (I 30))]) (K' := []) zco_87 rfl rfl rfl rfl rfl rfl rfl rfl ?_
  refine g_istore_n (pc' := 9) (ls1 := [some (.ref 4), some (.ref 1), some (.ref 28), some (.int r1)]) hc rfl (zlt rfl) rfl rfl ?_
  refine g_iload_n (pc' := 10)  hc rfl rfl rfl ?_
  refine g_if_eq (pc' := 13) hc rfl rfl (fun hx => ?_) (fun hx => ?_)
  · replace h := zwp_t h hx
    refine g_aload_n (pc' := 16)  hc rfl rfl rfl rfl ?_
    refine g_aload_n (pc' := 17)  hc rfl rfl rfl rfl ?_
    refine z_getI (pc' := 20) (v := (I 1 6)) hc rfl rfl rfl sh_1 rfl rfl rfl ?_
    refine z_virt (as := [.int (I 1 6)]) (a := 28) (r := []) hc rfl rfl rfl rfl sh_28 rfl zco_44 rfl rfl rfl ?_
    refine ok_X5_add_28 (zdp hd rfl) (zwp_mono (zwp_bind h) ?_)
    rintro ⟨o2, o3⟩ h
    refine z_po (pc' := 23) (st' := []) (v := none) (L' := [(4, some 5, fun _ => (I 4 5)), (28, some 2, fun _ => o3), (30, none, o2)]) (K' := []) zco_44 rfl rfl rfl rfl rfl rfl rfl rfl ?_
    refine g_aload_n (pc' := 24)  hc rfl rfl rfl rfl ?_
    refine g_iconst (pc' := 25) (v := (0 : Int32)) hc rfl zki_0 rfl ?_
    refine z_putI (pc' := 28) (L' := [(4, some 5, fun _ => (0 : Int32)), (28, some 2, fun _ => o3), (30, none, o2)]) hc rfl rfl rfl sh_4 rfl zft_6_5 rfl (fun h => Bool.noConfusion h) rfl rfl rfl ?_
    refine g_iconst (pc' := 29) (v := (0 : Int32)) hc rfl zki_0 rfl ?_
    replace h := zws h
    exact g_ireturn hc rfl rfl rfl (fun _ => ⟨rfl, rfl⟩) h
  · replace h := zwp_f h hx
    refine g_iload_n (pc' := 14)  hc rfl rfl rfl ?_
    replace h := zws h
    exact g_ireturn hc rfl rfl rfl (fun _ => ⟨rfl, rfl⟩) h
set_option maxRecDepth 4000 in
theorem ok_X6_readWord_4_1_28 {p q : Nat} {I : pI} {J : pJ} {a3 : Int32} {Q : pQ} {d : Nat} (hd : 8 ≤ d) (h : zwp (f_X6_readWord a3 (I 4 4) (I 4 3) (I 4 5) (I 30) (I 28 2) (I 2) (I 1 4) (I 1 5) (I 1 3) (I 5) (I 4 1)) (fun w => match w with | (r, o0, o1, o2, o3, o4, o5) => Q (.inl (some (.int r))) (zS p q I [(4, some 1, fun _ => o5), (4, some 3, fun _ => o0), (4, some 5, fun _ => o1), (5, none, o4), (28, some 2, fun _ => o3), (30, none, o2)] J []))) : pm_call M cost zext d 53 [.ref 4, .ref 1, .ref 28, .int a3] (pm_st 108 (shp p q) I J) Q := by
  obtain ⟨d, rfl⟩ := zd1 hd rfl
  have hc := pm_call_m (M := M) (cost := cost) zext_m d
  refine z_in (L := [(4, some 1, fun _ => (I 4 1)), (4, some 3, fun _ => (I 4 3)), (4, some 5, fun _ => (I 4 5)), (5, none, (I 5)), (28, some 2, fun _ => (I 28 2)), (30, none, (I 30))]) (K := []) (ls := [some (.ref 4), some (.ref 1), some (.ref 28), some (.int a3)]) zmt_53 zco_53 rfl rfl (zid_s (zid_s (zid_s (zid_a (zid_s (zid_a zid_n)))))) zid_n ?_
  delta f_X6_readWord at h
  refine g_aload_n (pc' := 1)  hc rfl rfl rfl rfl ?_
  refine z_getI (pc' := 4) (v := (I 4 4)) hc rfl rfl rfl sh_4 rfl rfl rfl ?_
  refine g_if_eq (pc' := 7) hc rfl rfl (fun hx => ?_) (fun hx => ?_)
  · replace h := zwp_t h hx
    refine g_iload_n (pc' := 46)  hc rfl rfl rfl ?_
    refine g_iconst (pc' := 47) (v := (-1 : Int32)) hc rfl zki_m1 rfl ?_
    refine g_icmp_ne (pc' := 50) hc rfl rfl (fun hx => ?_) (fun hx => ?_)
    · replace h := zwp_f h hx
      refine g_aload_n (pc' := 53)  hc rfl rfl rfl rfl ?_
      refine g_iconst (pc' := 54) (v := (-1 : Int32)) hc rfl zki_m1 rfl ?_
      refine g_iload_n (pc' := 55)  hc rfl rfl rfl ?_
      refine g_isub (pc' := 56)  hc rfl rfl ?_
      refine z_virt (as := [.int ((-1 : Int32) - a3)]) (a := 28) (r := []) hc rfl rfl rfl rfl sh_28 rfl zco_44 rfl rfl rfl ?_
      refine ok_X5_add_28 (zdp hd rfl) (zwp_mono (zwp_bind h) ?_)
      rintro ⟨o1, o2⟩ h
      refine z_po (pc' := 59) (st' := []) (v := none) (L' := [(4, some 1, fun _ => (I 4 1)), (4, some 3, fun _ => (I 4 3)), (4, some 5, fun _ => (I 4 5)), (5, none, (I 5)), (28, some 2, fun _ => o2), (30, none, o1)]) (K' := []) zco_44 rfl rfl rfl rfl rfl rfl rfl rfl ?_
      refine g_aload_n (pc' := 60)  hc rfl rfl rfl rfl ?_
      refine g_iconst (pc' := 61) (v := (0 : Int32)) hc rfl zki_0 rfl ?_
      refine z_putI (pc' := 64) (L' := [(4, some 1, fun _ => (I 4 1)), (4, some 3, fun _ => (I 4 3)), (4, some 5, fun _ => (0 : Int32)), (5, none, (I 5)), (28, some 2, fun _ => o2), (30, none, o1)]) hc rfl rfl rfl sh_4 rfl zft_6_5 rfl (fun h => Bool.noConfusion h) rfl rfl rfl ?_
      refine g_iconst (pc' := 65) (v := (0 : Int32)) hc rfl zki_0 rfl ?_
      replace h := zws h
      exact g_ireturn hc rfl rfl rfl (fun _ => ⟨rfl, rfl⟩) h
    · replace h := zwp_t h hx
      refine g_iconst (pc' := 51) (v := (3 : Int32)) hc rfl zki_3 rfl ?_
      replace h := zws h
      exact g_ireturn hc rfl rfl rfl (fun _ => ⟨rfl, rfl⟩) h
  · replace h := zwp_f h hx
    refine g_aload_n (pc' := 8)  hc rfl rfl rfl rfl ?_
    refine g_ldc_t (pc' := 10)  hc rfl rfl rfl ?_
    refine z_virt (as := [.retAddr 14]) (a := 1) (r := []) hc rfl rfl rfl rfl sh_1 rfl zco_90 rfl rfl rfl ?_
    refine ok_X9_isWord_1 (zdp hd rfl) (zlt rfl) (zwp_mono (zwp_bind h) ?_)
    rintro r3 h
    refine z_po (pc' := 13) (st' := [.int r3]) (v := (some (.int r3))) (L' := [(4, some 1, fun _ => (I 4 1)), (4, some 3, fun _ => (I 4 3)), (4, some 5, fun _ => (I 4 5)), (5, none, (I 5)), (28, some 2, fun _ => (I 28 2)), (30, none, (I 30))]) (K' := []) zco_90 rfl rfl rfl rfl rfl rfl rfl rfl ?_
    refine g_if_eq (pc' := 16) hc rfl rfl (fun hx => ?_) (fun hx => ?_)
    · replace h := zwp_t h hx
      refine g_iload_n (pc' := 46)  hc rfl rfl rfl ?_
      refine g_iconst (pc' := 47) (v := (-1 : Int32)) hc rfl zki_m1 rfl ?_
      refine g_icmp_ne (pc' := 50) hc rfl rfl (fun hx => ?_) (fun hx => ?_)
      · replace h := zwp_f h hx
        refine g_aload_n (pc' := 53)  hc rfl rfl rfl rfl ?_
        refine g_iconst (pc' := 54) (v := (-1 : Int32)) hc rfl zki_m1 rfl ?_
        refine g_iload_n (pc' := 55)  hc rfl rfl rfl ?_
        refine g_isub (pc' := 56)  hc rfl rfl ?_
        refine z_virt (as := [.int ((-1 : Int32) - a3)]) (a := 28) (r := []) hc rfl rfl rfl rfl sh_28 rfl zco_44 rfl rfl rfl ?_
        refine ok_X5_add_28 (zdp hd rfl) (zwp_mono (zwp_bind h) ?_)
        rintro ⟨o4, o5⟩ h
        refine z_po (pc' := 59) (st' := []) (v := none) (L' := [(4, some 1, fun _ => (I 4 1)), (4, some 3, fun _ => (I 4 3)), (4, some 5, fun _ => (I 4 5)), (5, none, (I 5)), (28, some 2, fun _ => o5), (30, none, o4)]) (K' := []) zco_44 rfl rfl rfl rfl rfl rfl rfl rfl ?_
        refine g_aload_n (pc' := 60)  hc rfl rfl rfl rfl ?_
        refine g_iconst (pc' := 61) (v := (0 : Int32)) hc rfl zki_0 rfl ?_
        refine z_putI (pc' := 64) (L' := [(4, some 1, fun _ => (I 4 1)), (4, some 3, fun _ => (I 4 3)), (4, some 5, fun _ => (0 : Int32)), (5, none, (I 5)), (28, some 2, fun _ => o5), (30, none, o4)]) hc rfl rfl rfl sh_4 rfl zft_6_5 rfl (fun h => Bool.noConfusion h) rfl rfl rfl ?_
        refine g_iconst (pc' := 65) (v := (0 : Int32)) hc rfl zki_0 rfl ?_
        replace h := zws h
        exact g_ireturn hc rfl rfl rfl (fun _ => ⟨rfl, rfl⟩) h
      · replace h := zwp_t h hx
        refine g_iconst (pc' := 51) (v := (3 : Int32)) hc rfl zki_3 rfl ?_
        replace h := zws h
        exact g_ireturn hc rfl rfl rfl (fun _ => ⟨rfl, rfl⟩) h
    · replace h := zwp_f h hx
      refine g_aload_n (pc' := 17)  hc rfl rfl rfl rfl ?_
      refine z_getI (pc' := 20) (v := (I 4 3)) hc rfl rfl rfl sh_4 rfl rfl rfl ?_
      refine g_bipush (pc' := 22) (v := (6 : Int32)) hc rfl zkb_6 rfl ?_
      refine g_icmp_lt (pc' := 25) hc rfl rfl (fun hx => ?_) (fun hx => ?_)
      · replace h := zwp_t h hx
        refine g_aload_n (pc' := 28)  hc rfl rfl rfl rfl ?_
        refine g_bipush (pc' := 30) (v := (-13 : Int32)) hc rfl zkb_m13 rfl ?_
        refine z_virt (as := [.int (-13 : Int32)]) (a := 4) (r := []) hc rfl rfl rfl rfl sh_4 rfl zco_58 rfl rfl rfl ?_
        refine ok_X6_push_4 (zdp hd rfl) (zwp_mono (zwp_bind h) ?_)
        rintro ⟨o6, o7⟩ h
        refine z_po (pc' := 33) (st' := []) (v := none) (L' := [(4, some 1, fun _ => o7), (4, some 3, fun _ => (I 4 3)), (4, some 5, fun _ => (I 4 5)), (5, none, o6), (28, some 2, fun _ => (I 28 2)), (30, none, (I 30))]) (K' := []) zco_58 rfl rfl rfl rfl rfl rfl rfl rfl ?_
        refine g_aload_n (pc' := 34)  hc rfl rfl rfl rfl ?_
        refine g_dup (pc' := 35)  hc rfl rfl rfl ?_
        refine z_getI (pc' := 38) (v := (I 4 3)) hc rfl rfl rfl sh_4 rfl rfl rfl ?_
        refine g_iconst (pc' := 39) (v := (1 : Int32)) hc rfl zki_1 rfl ?_
        refine g_iadd (pc' := 40)  hc rfl rfl ?_
        refine z_putI (pc' := 43) (L' := [(4, some 1, fun _ => o7), (4, some 3, fun _ => (((I 4 3)) + (1 : Int32))), (4, some 5, fun _ => (I 4 5)), (5, none, o6), (28, some 2, fun _ => (I 28 2)), (30, none, (I 30))]) hc rfl rfl rfl sh_4 rfl zft_6_3 rfl (fun h => Bool.noConfusion h) rfl rfl rfl ?_
        refine g_iconst (pc' := 44) (v := (0 : Int32)) hc rfl zki_0 rfl ?_
        replace h := zws h
        exact g_ireturn hc rfl rfl rfl (fun _ => ⟨rfl, rfl⟩) h
      · replace h := zwp_f h hx
        refine g_iconst (pc' := 26) (v := (2 : Int32)) hc rfl zki_2 rfl ?_
        replace h := zws h
        exact g_ireturn hc rfl rfl rfl (fun _ => ⟨rfl, rfl⟩) h
set_option maxRecDepth 4000 in
theorem ok_X6_readPart_4_1_28 {p q : Nat} {I : pI} {J : pJ} {a3 : Int32} {Q : pQ} {d : Nat} (hd : 9 ≤ d) (h : zwp (f_X6_readPart a3 (I 4 4) (I 4 2) (I 4 3) (I 4 5) (I 30) (I 28 2) (I 2) (I 1 4) (I 1 5) (I 1 6) (I 1 3) (I 5) (I 4 1)) (fun w => match w with | (r, o0, o1, o2, o3, o4, o5, o6, o7) => Q (.inl (some (.int r))) (zS p q I [(4, some 1, fun _ => o7), (4, some 2, fun _ => o1), (4, some 3, fun _ => o2), (4, some 4, fun _ => o0), (4, some 5, fun _ => o3), (5, none, o6), (28, some 2, fun _ => o5), (30, none, o4)] J []))) : pm_call M cost zext d 51 [.ref 4, .ref 1, .ref 28, .int a3] (pm_st 108 (shp p q) I J) Q := by
  obtain ⟨d, rfl⟩ := zd1 hd rfl
  have hc := pm_call_m (M := M) (cost := cost) zext_m d
  refine z_in (L := [(4, some 1, fun _ => (I 4 1)), (4, some 2, fun _ => (I 4 2)), (4, some 3, fun _ => (I 4 3)), (4, some 4, fun _ => (I 4 4)), (4, some 5, fun _ => (I 4 5)), (5, none, (I 5)), (28, some 2, fun _ => (I 28 2)), (30, none, (I 30))]) (K := []) (ls := [some (.ref 4), some (.ref 1), some (.ref 28), some (.int a3), none]) zmt_51 zco_51 rfl rfl (zid_s (zid_s (zid_s (zid_s (zid_s (zid_a (zid_s (zid_a zid_n)))))))) zid_n ?_
  delta f_X6_readPart at h
  refine g_aload_n (pc' := 1)  hc rfl rfl rfl rfl ?_
  refine g_bipush (pc' := 3) (v := (40 : Int32)) hc rfl zkb_40 rfl ?_
  refine z_virt (as := [.int (40 : Int32)]) (a := 1) (r := []) hc rfl rfl rfl rfl sh_1 rfl zco_88 rfl rfl rfl ?_
  refine ok_X9_isSign_1 (zdp hd rfl) (zwp_mono (zwp_bind h) ?_)
  rintro r1 h
  refine z_po (pc' := 6) (st' := [.int r1]) (v := (some (.int r1))) (L' := [(4, some 1, fun _ => (I 4 1)), (4, some 2, fun _ => (I 4 2)), (4, some 3, fun _ => (I 4 3)), (4, some 4, fun _ => (I 4 4)), (4, some 5, fun _ => (I 4 5)), (5, none, (I 5)), (28, some 2, fun _ => (I 28 2)), (30, none, (I 30))]) (K' := []) zco_88 rfl rfl rfl rfl rfl rfl rfl rfl ?_
  refine g_istore (pc' := 8) (ls1 := [some (.ref 4), some (.ref 1), some (.ref 28), some (.int a3), some (.int r1)]) hc rfl (zlt rfl) rfl rfl ?_
  refine g_iload (pc' := 10)  hc rfl rfl rfl ?_
  refine g_if_ne (pc' := 13) hc rfl rfl (fun hx => ?_) (fun hx => ?_)
  · replace h := zwp_f h hx
    refine g_aload_n (pc' := 32)  hc rfl rfl rfl rfl ?_
    refine z_getI (pc' := 35) (v := (I 4 2)) hc rfl rfl rfl sh_4 rfl rfl rfl ?_
    refine g_bipush (pc' := 37) (v := (6 : Int32)) hc rfl zkb_6 rfl ?_
    refine g_icmp_lt (pc' := 40) hc rfl rfl (fun hx => ?_) (fun hx => ?_)
    · replace h := zwp_t h hx
      refine g_iload (pc' := 44)  hc rfl rfl rfl ?_
      refine g_if_eq (pc' := 47) hc rfl rfl (fun hx => ?_) (fun hx => ?_)
      · replace h := zwp_t h hx
        refine g_aload_n (pc' := 71)  hc rfl rfl rfl rfl ?_
        refine z_getI (pc' := 74) (v := (I 1 5)) hc rfl rfl rfl sh_1 rfl rfl rfl ?_
        refine g_iconst (pc' := 75) (v := (2 : Int32)) hc rfl zki_2 rfl ?_
        refine g_icmp_ne (pc' := 78) hc rfl rfl (fun hx => ?_) (fun hx => ?_)
        · replace h := zwp_f h hx
          refine g_aload_n (pc' := 88)  hc rfl rfl rfl rfl ?_
          refine g_aload_n (pc' := 89)  hc rfl rfl rfl rfl ?_
          refine g_aload_n (pc' := 90)  hc rfl rfl rfl rfl ?_
          refine g_aload_n (pc' := 91)  hc rfl rfl rfl rfl ?_
          refine g_iload_n (pc' := 92)  hc rfl rfl rfl ?_
          refine z_stat (as := [.ref 1, .int a3]) (r := [.ref 28, .ref 1, .ref 4]) hc rfl rfl rfl rfl zco_54 rfl rfl rfl ?_
          refine ok_X6_valueOf_1 (zdp hd rfl) (zwp_mono (zwp_bind h) ?_)
          rintro r2 h
          refine z_po (pc' := 95) (st' := [.int r2, .ref 28, .ref 1, .ref 4]) (v := (some (.int r2))) (L' := [(4, some 1, fun _ => (I 4 1)), (4, some 2, fun _ => (I 4 2)), (4, some 3, fun _ => (I 4 3)), (4, some 4, fun _ => (I 4 4)), (4, some 5, fun _ => (I 4 5)), (5, none, (I 5)), (28, some 2, fun _ => (I 28 2)), (30, none, (I 30))]) (K' := []) zco_54 rfl rfl rfl rfl rfl rfl rfl rfl ?_
          refine z_virt (as := [.ref 1, .ref 28, .int r2]) (a := 4) (r := []) hc rfl rfl rfl rfl sh_4 rfl zco_53 rfl rfl rfl ?_
          refine ok_X6_readWord_4_1_28 (zdp hd rfl) (zwp_mono (zwp_bind h) ?_)
          rintro ⟨r9, o3, o4, o5, o6, o7, o8⟩ h
          refine z_po (pc' := 98) (st' := [.int r9]) (v := (some (.int r9))) (L' := [(4, some 1, fun _ => o8), (4, some 2, fun _ => (I 4 2)), (4, some 3, fun _ => o3), (4, some 4, fun _ => (I 4 4)), (4, some 5, fun _ => o4), (5, none, o7), (28, some 2, fun _ => o6), (30, none, o5)]) (K' := []) zco_53 rfl rfl rfl rfl rfl rfl rfl rfl ?_
          replace h := zws h
          exact g_ireturn hc rfl rfl rfl (fun _ => ⟨rfl, rfl⟩) h
        · replace h := zwp_t h hx
          refine g_aload_n (pc' := 79)  hc rfl rfl rfl rfl ?_
          refine g_aload_n (pc' := 80)  hc rfl rfl rfl rfl ?_
          refine g_aload_n (pc' := 81)  hc rfl rfl rfl rfl ?_
          refine z_virt (as := [.ref 1, .ref 28]) (a := 4) (r := []) hc rfl rfl rfl rfl sh_4 rfl zco_52 rfl rfl rfl ?_
          refine ok_X6_readNumber_4_1_28 (zdp hd rfl) (zwp_mono (zwp_bind h) ?_)
          rintro ⟨r13, o10, o11, o12⟩ h
          refine z_po (pc' := 84) (st' := [.int r13]) (v := (some (.int r13))) (L' := [(4, some 1, fun _ => (I 4 1)), (4, some 2, fun _ => (I 4 2)), (4, some 3, fun _ => (I 4 3)), (4, some 4, fun _ => (I 4 4)), (4, some 5, fun _ => o10), (5, none, (I 5)), (28, some 2, fun _ => o12), (30, none, o11)]) (K' := []) zco_52 rfl rfl rfl rfl rfl rfl rfl rfl ?_
          refine g_goto hc rfl ?_
          replace h := zws h
          exact g_ireturn hc rfl rfl rfl (fun _ => ⟨rfl, rfl⟩) h
      · replace h := zwp_f h hx
        refine g_aload_n (pc' := 48)  hc rfl rfl rfl rfl ?_
        refine g_bipush (pc' := 50) (v := (-20 : Int32)) hc rfl zkb_m20 rfl ?_
        refine z_virt (as := [.int (-20 : Int32)]) (a := 4) (r := []) hc rfl rfl rfl rfl sh_4 rfl zco_58 rfl rfl rfl ?_
        refine ok_X6_push_4 (zdp hd rfl) (zwp_mono (zwp_bind h) ?_)
        rintro ⟨o14, o15⟩ h
        refine z_po (pc' := 53) (st' := []) (v := none) (L' := [(4, some 1, fun _ => o15), (4, some 2, fun _ => (I 4 2)), (4, some 3, fun _ => (I 4 3)), (4, some 4, fun _ => (I 4 4)), (4, some 5, fun _ => (I 4 5)), (5, none, o14), (28, some 2, fun _ => (I 28 2)), (30, none, (I 30))]) (K' := []) zco_58 rfl rfl rfl rfl rfl rfl rfl rfl ?_
        refine g_aload_n (pc' := 54)  hc rfl rfl rfl rfl ?_
        refine g_dup (pc' := 55)  hc rfl rfl rfl ?_
        refine z_getI (pc' := 58) (v := (I 4 2)) hc rfl rfl rfl sh_4 rfl rfl rfl ?_
        refine g_iconst (pc' := 59) (v := (1 : Int32)) hc rfl zki_1 rfl ?_
        refine g_iadd (pc' := 60)  hc rfl rfl ?_
        refine z_putI (pc' := 63) (L' := [(4, some 1, fun _ => o15), (4, some 2, fun _ => (((I 4 2)) + (1 : Int32))), (4, some 3, fun _ => (I 4 3)), (4, some 4, fun _ => (I 4 4)), (4, some 5, fun _ => (I 4 5)), (5, none, o14), (28, some 2, fun _ => (I 28 2)), (30, none, (I 30))]) hc rfl rfl rfl sh_4 rfl zft_6_2 rfl (fun h => Bool.noConfusion h) rfl rfl rfl ?_
        refine g_aload_n (pc' := 64)  hc rfl rfl rfl rfl ?_
        refine g_iconst (pc' := 65) (v := (1 : Int32)) hc rfl zki_1 rfl ?_
        refine z_virt (as := [.int (1 : Int32)]) (a := 4) (r := []) hc rfl rfl rfl rfl sh_4 rfl zco_50 rfl rfl rfl ?_
        refine ok_X6_beginPart_4 (zdp hd rfl) (zwp_mono (zwp_bind h) ?_)
        rintro ⟨o16, o17, o18⟩ h
        refine z_po (pc' := 68) (st' := []) (v := none) (L' := [(4, some 1, fun _ => o15), (4, some 2, fun _ => (((I 4 2)) + (1 : Int32))), (4, some 3, fun _ => o17), (4, some 4, fun _ => o16), (4, some 5, fun _ => o18), (5, none, o14), (28, some 2, fun _ => (I 28 2)), (30, none, (I 30))]) (K' := []) zco_50 rfl rfl rfl rfl rfl rfl rfl rfl ?_
        refine g_iconst (pc' := 69) (v := (0 : Int32)) hc rfl zki_0 rfl ?_
        replace h := zws h
        exact g_ireturn hc rfl rfl rfl (fun _ => ⟨rfl, rfl⟩) h
    · replace h := zwp_f h hx
      refine g_iconst (pc' := 41) (v := (2 : Int32)) hc rfl zki_2 rfl ?_
      replace h := zws h
      exact g_ireturn hc rfl rfl rfl (fun _ => ⟨rfl, rfl⟩) h
  · replace h := zwp_t h hx
    refine g_aload_n (pc' := 14)  hc rfl rfl rfl rfl ?_
    refine z_getI (pc' := 17) (v := (I 1 5)) hc rfl rfl rfl sh_1 rfl rfl rfl ?_
    refine g_iconst (pc' := 18) (v := (2 : Int32)) hc rfl zki_2 rfl ?_
    refine g_icmp_eq (pc' := 21) hc rfl rfl (fun hx => ?_) (fun hx => ?_)
    · replace h := zwp_t h hx
      refine g_aload_n (pc' := 32)  hc rfl rfl rfl rfl ?_
      refine z_getI (pc' := 35) (v := (I 4 2)) hc rfl rfl rfl sh_4 rfl rfl rfl ?_
      refine g_bipush (pc' := 37) (v := (6 : Int32)) hc rfl zkb_6 rfl ?_
      refine g_icmp_lt (pc' := 40) hc rfl rfl (fun hx => ?_) (fun hx => ?_)
      · replace h := zwp_t h hx
        refine g_iload (pc' := 44)  hc rfl rfl rfl ?_
        refine g_if_eq (pc' := 47) hc rfl rfl (fun hx => ?_) (fun hx => ?_)
        · replace h := zwp_t h hx
          refine g_aload_n (pc' := 71)  hc rfl rfl rfl rfl ?_
          refine z_getI (pc' := 74) (v := (I 1 5)) hc rfl rfl rfl sh_1 rfl rfl rfl ?_
          refine g_iconst (pc' := 75) (v := (2 : Int32)) hc rfl zki_2 rfl ?_
          refine g_icmp_ne (pc' := 78) hc rfl rfl (fun hx => ?_) (fun hx => ?_)
          · replace h := zwp_f h hx
            refine g_aload_n (pc' := 88)  hc rfl rfl rfl rfl ?_
            refine g_aload_n (pc' := 89)  hc rfl rfl rfl rfl ?_
            refine g_aload_n (pc' := 90)  hc rfl rfl rfl rfl ?_
            refine g_aload_n (pc' := 91)  hc rfl rfl rfl rfl ?_
            refine g_iload_n (pc' := 92)  hc rfl rfl rfl ?_
            refine z_stat (as := [.ref 1, .int a3]) (r := [.ref 28, .ref 1, .ref 4]) hc rfl rfl rfl rfl zco_54 rfl rfl rfl ?_
            refine ok_X6_valueOf_1 (zdp hd rfl) (zwp_mono (zwp_bind h) ?_)
            rintro r19 h
            refine z_po (pc' := 95) (st' := [.int r19, .ref 28, .ref 1, .ref 4]) (v := (some (.int r19))) (L' := [(4, some 1, fun _ => (I 4 1)), (4, some 2, fun _ => (I 4 2)), (4, some 3, fun _ => (I 4 3)), (4, some 4, fun _ => (I 4 4)), (4, some 5, fun _ => (I 4 5)), (5, none, (I 5)), (28, some 2, fun _ => (I 28 2)), (30, none, (I 30))]) (K' := []) zco_54 rfl rfl rfl rfl rfl rfl rfl rfl ?_
            refine z_virt (as := [.ref 1, .ref 28, .int r19]) (a := 4) (r := []) hc rfl rfl rfl rfl sh_4 rfl zco_53 rfl rfl rfl ?_
            refine ok_X6_readWord_4_1_28 (zdp hd rfl) (zwp_mono (zwp_bind h) ?_)
            rintro ⟨r26, o20, o21, o22, o23, o24, o25⟩ h
            refine z_po (pc' := 98) (st' := [.int r26]) (v := (some (.int r26))) (L' := [(4, some 1, fun _ => o25), (4, some 2, fun _ => (I 4 2)), (4, some 3, fun _ => o20), (4, some 4, fun _ => (I 4 4)), (4, some 5, fun _ => o21), (5, none, o24), (28, some 2, fun _ => o23), (30, none, o22)]) (K' := []) zco_53 rfl rfl rfl rfl rfl rfl rfl rfl ?_
            replace h := zws h
            exact g_ireturn hc rfl rfl rfl (fun _ => ⟨rfl, rfl⟩) h
          · replace h := zwp_t h hx
            refine g_aload_n (pc' := 79)  hc rfl rfl rfl rfl ?_
            refine g_aload_n (pc' := 80)  hc rfl rfl rfl rfl ?_
            refine g_aload_n (pc' := 81)  hc rfl rfl rfl rfl ?_
            refine z_virt (as := [.ref 1, .ref 28]) (a := 4) (r := []) hc rfl rfl rfl rfl sh_4 rfl zco_52 rfl rfl rfl ?_
            refine ok_X6_readNumber_4_1_28 (zdp hd rfl) (zwp_mono (zwp_bind h) ?_)
            rintro ⟨r30, o27, o28, o29⟩ h
            refine z_po (pc' := 84) (st' := [.int r30]) (v := (some (.int r30))) (L' := [(4, some 1, fun _ => (I 4 1)), (4, some 2, fun _ => (I 4 2)), (4, some 3, fun _ => (I 4 3)), (4, some 4, fun _ => (I 4 4)), (4, some 5, fun _ => o27), (5, none, (I 5)), (28, some 2, fun _ => o29), (30, none, o28)]) (K' := []) zco_52 rfl rfl rfl rfl rfl rfl rfl rfl ?_
            refine g_goto hc rfl ?_
            replace h := zws h
            exact g_ireturn hc rfl rfl rfl (fun _ => ⟨rfl, rfl⟩) h
        · replace h := zwp_f h hx
          refine g_aload_n (pc' := 48)  hc rfl rfl rfl rfl ?_
          refine g_bipush (pc' := 50) (v := (-20 : Int32)) hc rfl zkb_m20 rfl ?_
          refine z_virt (as := [.int (-20 : Int32)]) (a := 4) (r := []) hc rfl rfl rfl rfl sh_4 rfl zco_58 rfl rfl rfl ?_
          refine ok_X6_push_4 (zdp hd rfl) (zwp_mono (zwp_bind h) ?_)
          rintro ⟨o31, o32⟩ h
          refine z_po (pc' := 53) (st' := []) (v := none) (L' := [(4, some 1, fun _ => o32), (4, some 2, fun _ => (I 4 2)), (4, some 3, fun _ => (I 4 3)), (4, some 4, fun _ => (I 4 4)), (4, some 5, fun _ => (I 4 5)), (5, none, o31), (28, some 2, fun _ => (I 28 2)), (30, none, (I 30))]) (K' := []) zco_58 rfl rfl rfl rfl rfl rfl rfl rfl ?_
          refine g_aload_n (pc' := 54)  hc rfl rfl rfl rfl ?_
          refine g_dup (pc' := 55)  hc rfl rfl rfl ?_
          refine z_getI (pc' := 58) (v := (I 4 2)) hc rfl rfl rfl sh_4 rfl rfl rfl ?_
          refine g_iconst (pc' := 59) (v := (1 : Int32)) hc rfl zki_1 rfl ?_
          refine g_iadd (pc' := 60)  hc rfl rfl ?_
          refine z_putI (pc' := 63) (L' := [(4, some 1, fun _ => o32), (4, some 2, fun _ => (((I 4 2)) + (1 : Int32))), (4, some 3, fun _ => (I 4 3)), (4, some 4, fun _ => (I 4 4)), (4, some 5, fun _ => (I 4 5)), (5, none, o31), (28, some 2, fun _ => (I 28 2)), (30, none, (I 30))]) hc rfl rfl rfl sh_4 rfl zft_6_2 rfl (fun h => Bool.noConfusion h) rfl rfl rfl ?_
          refine g_aload_n (pc' := 64)  hc rfl rfl rfl rfl ?_
          refine g_iconst (pc' := 65) (v := (1 : Int32)) hc rfl zki_1 rfl ?_
          refine z_virt (as := [.int (1 : Int32)]) (a := 4) (r := []) hc rfl rfl rfl rfl sh_4 rfl zco_50 rfl rfl rfl ?_
          refine ok_X6_beginPart_4 (zdp hd rfl) (zwp_mono (zwp_bind h) ?_)
          rintro ⟨o33, o34, o35⟩ h
          refine z_po (pc' := 68) (st' := []) (v := none) (L' := [(4, some 1, fun _ => o32), (4, some 2, fun _ => (((I 4 2)) + (1 : Int32))), (4, some 3, fun _ => o34), (4, some 4, fun _ => o33), (4, some 5, fun _ => o35), (5, none, o31), (28, some 2, fun _ => (I 28 2)), (30, none, (I 30))]) (K' := []) zco_50 rfl rfl rfl rfl rfl rfl rfl rfl ?_
          refine g_iconst (pc' := 69) (v := (0 : Int32)) hc rfl zki_0 rfl ?_
          replace h := zws h
          exact g_ireturn hc rfl rfl rfl (fun _ => ⟨rfl, rfl⟩) h
      · replace h := zwp_f h hx
        refine g_iconst (pc' := 41) (v := (2 : Int32)) hc rfl zki_2 rfl ?_
        replace h := zws h
        exact g_ireturn hc rfl rfl rfl (fun _ => ⟨rfl, rfl⟩) h
    · replace h := zwp_f h hx
      refine g_aload_n (pc' := 22)  hc rfl rfl rfl rfl ?_
      refine z_getI (pc' := 25) (v := (I 1 5)) hc rfl rfl rfl sh_1 rfl rfl rfl ?_
      refine g_iconst (pc' := 26) (v := (1 : Int32)) hc rfl zki_1 rfl ?_
      refine g_icmp_eq (pc' := 29) hc rfl rfl (fun hx => ?_) (fun hx => ?_)
      · replace h := zwp_t h hx
        refine g_aload_n (pc' := 32)  hc rfl rfl rfl rfl ?_
        refine z_getI (pc' := 35) (v := (I 4 2)) hc rfl rfl rfl sh_4 rfl rfl rfl ?_
        refine g_bipush (pc' := 37) (v := (6 : Int32)) hc rfl zkb_6 rfl ?_
        refine g_icmp_lt (pc' := 40) hc rfl rfl (fun hx => ?_) (fun hx => ?_)
        · replace h := zwp_t h hx
          refine g_iload (pc' := 44)  hc rfl rfl rfl ?_
          refine g_if_eq (pc' := 47) hc rfl rfl (fun hx => ?_) (fun hx => ?_)
          · replace h := zwp_t h hx
            refine g_aload_n (pc' := 71)  hc rfl rfl rfl rfl ?_
            refine z_getI (pc' := 74) (v := (I 1 5)) hc rfl rfl rfl sh_1 rfl rfl rfl ?_
            refine g_iconst (pc' := 75) (v := (2 : Int32)) hc rfl zki_2 rfl ?_
            refine g_icmp_ne (pc' := 78) hc rfl rfl (fun hx => ?_) (fun hx => ?_)
            · replace h := zwp_f h hx
              refine g_aload_n (pc' := 88)  hc rfl rfl rfl rfl ?_
              refine g_aload_n (pc' := 89)  hc rfl rfl rfl rfl ?_
              refine g_aload_n (pc' := 90)  hc rfl rfl rfl rfl ?_
              refine g_aload_n (pc' := 91)  hc rfl rfl rfl rfl ?_
              refine g_iload_n (pc' := 92)  hc rfl rfl rfl ?_
              refine z_stat (as := [.ref 1, .int a3]) (r := [.ref 28, .ref 1, .ref 4]) hc rfl rfl rfl rfl zco_54 rfl rfl rfl ?_
              refine ok_X6_valueOf_1 (zdp hd rfl) (zwp_mono (zwp_bind h) ?_)
              rintro r36 h
              refine z_po (pc' := 95) (st' := [.int r36, .ref 28, .ref 1, .ref 4]) (v := (some (.int r36))) (L' := [(4, some 1, fun _ => (I 4 1)), (4, some 2, fun _ => (I 4 2)), (4, some 3, fun _ => (I 4 3)), (4, some 4, fun _ => (I 4 4)), (4, some 5, fun _ => (I 4 5)), (5, none, (I 5)), (28, some 2, fun _ => (I 28 2)), (30, none, (I 30))]) (K' := []) zco_54 rfl rfl rfl rfl rfl rfl rfl rfl ?_
              refine z_virt (as := [.ref 1, .ref 28, .int r36]) (a := 4) (r := []) hc rfl rfl rfl rfl sh_4 rfl zco_53 rfl rfl rfl ?_
              refine ok_X6_readWord_4_1_28 (zdp hd rfl) (zwp_mono (zwp_bind h) ?_)
              rintro ⟨r43, o37, o38, o39, o40, o41, o42⟩ h
              refine z_po (pc' := 98) (st' := [.int r43]) (v := (some (.int r43))) (L' := [(4, some 1, fun _ => o42), (4, some 2, fun _ => (I 4 2)), (4, some 3, fun _ => o37), (4, some 4, fun _ => (I 4 4)), (4, some 5, fun _ => o38), (5, none, o41), (28, some 2, fun _ => o40), (30, none, o39)]) (K' := []) zco_53 rfl rfl rfl rfl rfl rfl rfl rfl ?_
              replace h := zws h
              exact g_ireturn hc rfl rfl rfl (fun _ => ⟨rfl, rfl⟩) h
            · replace h := zwp_t h hx
              refine g_aload_n (pc' := 79)  hc rfl rfl rfl rfl ?_
              refine g_aload_n (pc' := 80)  hc rfl rfl rfl rfl ?_
              refine g_aload_n (pc' := 81)  hc rfl rfl rfl rfl ?_
              refine z_virt (as := [.ref 1, .ref 28]) (a := 4) (r := []) hc rfl rfl rfl rfl sh_4 rfl zco_52 rfl rfl rfl ?_
              refine ok_X6_readNumber_4_1_28 (zdp hd rfl) (zwp_mono (zwp_bind h) ?_)
              rintro ⟨r47, o44, o45, o46⟩ h
              refine z_po (pc' := 84) (st' := [.int r47]) (v := (some (.int r47))) (L' := [(4, some 1, fun _ => (I 4 1)), (4, some 2, fun _ => (I 4 2)), (4, some 3, fun _ => (I 4 3)), (4, some 4, fun _ => (I 4 4)), (4, some 5, fun _ => o44), (5, none, (I 5)), (28, some 2, fun _ => o46), (30, none, o45)]) (K' := []) zco_52 rfl rfl rfl rfl rfl rfl rfl rfl ?_
              refine g_goto hc rfl ?_
              replace h := zws h
              exact g_ireturn hc rfl rfl rfl (fun _ => ⟨rfl, rfl⟩) h
          · replace h := zwp_f h hx
            refine g_aload_n (pc' := 48)  hc rfl rfl rfl rfl ?_
            refine g_bipush (pc' := 50) (v := (-20 : Int32)) hc rfl zkb_m20 rfl ?_
            refine z_virt (as := [.int (-20 : Int32)]) (a := 4) (r := []) hc rfl rfl rfl rfl sh_4 rfl zco_58 rfl rfl rfl ?_
            refine ok_X6_push_4 (zdp hd rfl) (zwp_mono (zwp_bind h) ?_)
            rintro ⟨o48, o49⟩ h
            refine z_po (pc' := 53) (st' := []) (v := none) (L' := [(4, some 1, fun _ => o49), (4, some 2, fun _ => (I 4 2)), (4, some 3, fun _ => (I 4 3)), (4, some 4, fun _ => (I 4 4)), (4, some 5, fun _ => (I 4 5)), (5, none, o48), (28, some 2, fun _ => (I 28 2)), (30, none, (I 30))]) (K' := []) zco_58 rfl rfl rfl rfl rfl rfl rfl rfl ?_
            refine g_aload_n (pc' := 54)  hc rfl rfl rfl rfl ?_
            refine g_dup (pc' := 55)  hc rfl rfl rfl ?_
            refine z_getI (pc' := 58) (v := (I 4 2)) hc rfl rfl rfl sh_4 rfl rfl rfl ?_
            refine g_iconst (pc' := 59) (v := (1 : Int32)) hc rfl zki_1 rfl ?_
            refine g_iadd (pc' := 60)  hc rfl rfl ?_
            refine z_putI (pc' := 63) (L' := [(4, some 1, fun _ => o49), (4, some 2, fun _ => (((I 4 2)) + (1 : Int32))), (4, some 3, fun _ => (I 4 3)), (4, some 4, fun _ => (I 4 4)), (4, some 5, fun _ => (I 4 5)), (5, none, o48), (28, some 2, fun _ => (I 28 2)), (30, none, (I 30))]) hc rfl rfl rfl sh_4 rfl zft_6_2 rfl (fun h => Bool.noConfusion h) rfl rfl rfl ?_
            refine g_aload_n (pc' := 64)  hc rfl rfl rfl rfl ?_
            refine g_iconst (pc' := 65) (v := (1 : Int32)) hc rfl zki_1 rfl ?_
            refine z_virt (as := [.int (1 : Int32)]) (a := 4) (r := []) hc rfl rfl rfl rfl sh_4 rfl zco_50 rfl rfl rfl ?_
            refine ok_X6_beginPart_4 (zdp hd rfl) (zwp_mono (zwp_bind h) ?_)
            rintro ⟨o50, o51, o52⟩ h
            refine z_po (pc' := 68) (st' := []) (v := none) (L' := [(4, some 1, fun _ => o49), (4, some 2, fun _ => (((I 4 2)) + (1 : Int32))), (4, some 3, fun _ => o51), (4, some 4, fun _ => o50), (4, some 5, fun _ => o52), (5, none, o48), (28, some 2, fun _ => (I 28 2)), (30, none, (I 30))]) (K' := []) zco_50 rfl rfl rfl rfl rfl rfl rfl rfl ?_
            refine g_iconst (pc' := 69) (v := (0 : Int32)) hc rfl zki_0 rfl ?_
            replace h := zws h
            exact g_ireturn hc rfl rfl rfl (fun _ => ⟨rfl, rfl⟩) h
        · replace h := zwp_f h hx
          refine g_iconst (pc' := 41) (v := (2 : Int32)) hc rfl zki_2 rfl ?_
          replace h := zws h
          exact g_ireturn hc rfl rfl rfl (fun _ => ⟨rfl, rfl⟩) h
      · replace h := zwp_f h hx
        refine g_iconst (pc' := 30) (v := (1 : Int32)) hc rfl zki_1 rfl ?_
        replace h := zws h
        exact g_ireturn hc rfl rfl rfl (fun _ => ⟨rfl, rfl⟩) h
set_option maxRecDepth 4000 in
theorem ok_X6_release_4_28 {p q : Nat} {I : pI} {J : pJ} {a2 : Int32} {Q : pQ} {d : Nat} (hd : 2 ≤ d) (h : zwp (f_X6_release a2 (I 30) (I 28 2) (I 5) (I 4 1)) (fun w => match w with | (o0, o1, o2) => Q (.inl none) (zS p q I [(4, some 1, fun _ => o2), (28, some 2, fun _ => o1), (30, none, o0)] J []))) : pm_call M cost zext d 59 [.ref 4, .ref 28, .int a2] (pm_st 108 (shp p q) I J) Q := by
  obtain ⟨d, rfl⟩ := zd1 hd rfl
  have hc := pm_call_m (M := M) (cost := cost) zext_m d
  refine z_in (L := [(4, some 1, fun _ => (I 4 1)), (28, some 2, fun _ => (I 28 2)), (30, none, (I 30))]) (K := []) (ls := [some (.ref 4), some (.ref 28), some (.int a2)]) zmt_59 zco_59 rfl rfl (zid_s (zid_s (zid_a zid_n))) zid_n ?_
  delta f_X6_release at h
  refine zjn (G := (fun (g : (Nat → Int32) × Int32 × Int32) => match g with | (y4, y5, y6) => pm_ev C_X6_release (d + 1) (pm_call M cost zext d) cost (false, false) 108 0 0 Q 51 [some (.ref 4), some (.ref 28), some (.int a2)] [] 0 0 (zS p q I [(4, some 1, fun _ => y6), (28, some 2, fun _ => y5), (30, none, y4)] J []))) (zwp_bind h) ?_ (fun h => ?_)
  · rintro ⟨y4, y5, y6⟩ h
    replace h := zws h
    exact g_return hc rfl rfl (fun _ => ⟨rfl, rfl⟩) h
  refine zitr_ev (G := (fun (g : (Nat → Int32) × Int32 × Int32) => match g with | (x1, x2, x3) => pm_ev C_X6_release (d + 1) (pm_call M cost zext d) cost (false, false) 108 0 0 Q 0 [some (.ref 4), some (.ref 28), some (.int a2)] [] 0 0 (zS p q I [(4, some 1, fun _ => x3), (28, some 2, fun _ => x2), (30, none, x1)] J []))) ?_ zFU ((I 30), (I 28 2), (I 4 1)) h
  rintro ⟨x1, x2, x3⟩ h
  refine g_aload_n (pc' := 1)  hc rfl rfl rfl rfl ?_
  refine z_getI (pc' := 4) (v := x3) hc rfl rfl rfl sh_4 rfl rfl rfl ?_
  refine g_if_le (pc' := 7) hc rfl rfl (fun hx => ?_) (fun hx => ?_)
  · replace h := zwp_t h hx
    replace h := zwp_r h
    exact h
  · replace h := zwp_f h hx
    refine g_aload_n (pc' := 8)  hc rfl rfl rfl rfl ?_
    refine z_getR (pc' := 11)  hc rfl rfl rfl sh_4 rfl rfl ?_
    refine g_aload_n (pc' := 12)  hc rfl rfl rfl rfl ?_
    refine z_getI (pc' := 15) (v := x3) hc rfl rfl rfl sh_4 rfl rfl rfl ?_
    refine g_iconst (pc' := 16) (v := (1 : Int32)) hc rfl zki_1 rfl ?_
    refine g_isub (pc' := 17)  hc rfl rfl ?_
    have hb := (zwp_bnd h).1
    replace h := (zwp_bnd h).2
    refine z_iaload (pc' := 18) (v := (((I 5)) (x3 - (1 : Int32)).toNatClampNeg)) hc rfl rfl sh_5 hb rfl rfl ?_
    refine z_stat (as := [.int (((I 5)) (x3 - (1 : Int32)).toNatClampNeg)]) (r := []) hc rfl rfl rfl rfl zco_57 rfl rfl rfl ?_
    refine ok_X6_rankOf (zdp hd rfl) (zwp_mono (zwp_bind h) ?_)
    rintro r7 h
    refine z_po (pc' := 21) (st' := [.int r7]) (v := (some (.int r7))) (L' := [(4, some 1, fun _ => x3), (28, some 2, fun _ => x2), (30, none, x1)]) (K' := []) zco_57 rfl rfl rfl rfl rfl rfl rfl rfl ?_
    refine g_iload_n (pc' := 22)  hc rfl rfl rfl ?_
    refine g_icmp_lt (pc' := 25) hc rfl rfl (fun hx => ?_) (fun hx => ?_)
    · replace h := zwp_t h hx
      replace h := zwp_r h
      exact h
    · replace h := zwp_f h hx
      refine g_aload_n (pc' := 26)  hc rfl rfl rfl rfl ?_
      refine g_dup (pc' := 27)  hc rfl rfl rfl ?_
      refine z_getI (pc' := 30) (v := x3) hc rfl rfl rfl sh_4 rfl rfl rfl ?_
      refine g_iconst (pc' := 31) (v := (1 : Int32)) hc rfl zki_1 rfl ?_
      refine g_isub (pc' := 32)  hc rfl rfl ?_
      refine z_putI (pc' := 35) (L' := [(4, some 1, fun _ => (x3 - (1 : Int32))), (28, some 2, fun _ => x2), (30, none, x1)]) hc rfl rfl rfl sh_4 rfl zft_6_1 rfl (fun h => Bool.noConfusion h) rfl rfl rfl ?_
      refine g_aload_n (pc' := 36)  hc rfl rfl rfl rfl ?_
      refine g_aload_n (pc' := 37)  hc rfl rfl rfl rfl ?_
      refine z_getR (pc' := 40)  hc rfl rfl rfl sh_4 rfl rfl ?_
      refine g_aload_n (pc' := 41)  hc rfl rfl rfl rfl ?_
      refine z_getI (pc' := 44) (v := (x3 - (1 : Int32))) hc rfl rfl rfl sh_4 rfl rfl rfl ?_
      have hb := (zwp_bnd h).1
      replace h := (zwp_bnd h).2
      refine z_iaload (pc' := 45) (v := (((I 5)) (x3 - (1 : Int32)).toNatClampNeg)) hc rfl rfl sh_5 hb rfl rfl ?_
      refine z_virt (as := [.int (((I 5)) (x3 - (1 : Int32)).toNatClampNeg)]) (a := 28) (r := []) hc rfl rfl rfl rfl sh_28 rfl zco_44 rfl rfl rfl ?_
      refine ok_X5_add_28 (zdp hd rfl) (zwp_mono (zwp_bind h) ?_)
      rintro ⟨o8, o9⟩ h
      refine z_po (pc' := 48) (st' := []) (v := none) (L' := [(4, some 1, fun _ => (x3 - (1 : Int32))), (28, some 2, fun _ => o9), (30, none, o8)]) (K' := []) zco_44 rfl rfl rfl rfl rfl rfl rfl rfl ?_
      refine g_goto hc rfl ?_
      replace h := zwp_l h
      exact h
set_option maxRecDepth 4000 in
theorem ok_X6_readOperator_4_1_28 {p q : Nat} {I : pI} {J : pJ} {Q : pQ} {d : Nat} (hd : 9 ≤ d) (h : zwp (f_X6_readOperator (I 4 4) (I 4 2) (I 4 3) (I 4 5) (I 30) (I 28 2) (I 2) (I 1 4) (I 1 5) (I 1 3) (I 5) (I 4 1)) (fun w => match w with | (r, o0, o1, o2, o3, o4, o5, o6, o7) => Q (.inl (some (.int r))) (zS p q I [(4, some 1, fun _ => o7), (4, some 2, fun _ => o1), (4, some 3, fun _ => o2), (4, some 4, fun _ => o0), (4, some 5, fun _ => o3), (5, none, o6), (28, some 2, fun _ => o5), (30, none, o4)] J []))) : pm_call M cost zext d 55 [.ref 4, .ref 1, .ref 28] (pm_st 108 (shp p q) I J) Q := by
  obtain ⟨d, rfl⟩ := zd1 hd rfl
  have hc := pm_call_m (M := M) (cost := cost) zext_m d
  refine z_in (L := [(4, some 1, fun _ => (I 4 1)), (4, some 2, fun _ => (I 4 2)), (4, some 3, fun _ => (I 4 3)), (4, some 4, fun _ => (I 4 4)), (4, some 5, fun _ => (I 4 5)), (5, none, (I 5)), (28, some 2, fun _ => (I 28 2)), (30, none, (I 30))]) (K := []) (ls := [some (.ref 4), some (.ref 1), some (.ref 28), none, none, none]) zmt_55 zco_55 rfl rfl (zid_s (zid_s (zid_s (zid_s (zid_s (zid_a (zid_s (zid_a zid_n)))))))) zid_n ?_
  delta f_X6_readOperator at h
  refine g_aload_n (pc' := 1)  hc rfl rfl rfl rfl ?_
  refine g_bipush (pc' := 3) (v := (41 : Int32)) hc rfl zkb_41 rfl ?_
  refine z_virt (as := [.int (41 : Int32)]) (a := 1) (r := []) hc rfl rfl rfl rfl sh_1 rfl zco_88 rfl rfl rfl ?_
  refine ok_X9_isSign_1 (zdp hd rfl) (zwp_mono (zwp_bind h) ?_)
  rintro r1 h
  refine z_po (pc' := 6) (st' := [.int r1]) (v := (some (.int r1))) (L' := [(4, some 1, fun _ => (I 4 1)), (4, some 2, fun _ => (I 4 2)), (4, some 3, fun _ => (I 4 3)), (4, some 4, fun _ => (I 4 4)), (4, some 5, fun _ => (I 4 5)), (5, none, (I 5)), (28, some 2, fun _ => (I 28 2)), (30, none, (I 30))]) (K' := []) zco_88 rfl rfl rfl rfl rfl rfl rfl rfl ?_
  refine g_if_eq (pc' := 9) hc rfl rfl (fun hx => ?_) (fun hx => ?_)
  · replace h := zwp_t h hx
    refine g_aload_n (pc' := 49)  hc rfl rfl rfl rfl ?_
    refine z_stat (as := [.ref 1]) (r := []) hc rfl rfl rfl rfl zco_56 rfl rfl rfl ?_
    refine ok_X6_operatorOf_1 (zdp hd rfl) (zwp_mono (zwp_bind h) ?_)
    rintro r2 h
    refine z_po (pc' := 52) (st' := [.int r2]) (v := (some (.int r2))) (L' := [(4, some 1, fun _ => (I 4 1)), (4, some 2, fun _ => (I 4 2)), (4, some 3, fun _ => (I 4 3)), (4, some 4, fun _ => (I 4 4)), (4, some 5, fun _ => (I 4 5)), (5, none, (I 5)), (28, some 2, fun _ => (I 28 2)), (30, none, (I 30))]) (K' := []) zco_56 rfl rfl rfl rfl rfl rfl rfl rfl ?_
    refine g_istore_n (pc' := 53) (ls1 := [some (.ref 4), some (.ref 1), some (.ref 28), some (.int r2), none, none]) hc rfl (zlt rfl) rfl rfl ?_
    refine g_iload_n (pc' := 54)  hc rfl rfl rfl ?_
    refine g_iconst (pc' := 55) (v := (-1 : Int32)) hc rfl zki_m1 rfl ?_
    refine g_icmp_ne (pc' := 58) hc rfl rfl (fun hx => ?_) (fun hx => ?_)
    · replace h := zwp_f h hx
      refine g_iload_n (pc' := 61)  hc rfl rfl rfl ?_
      refine z_stat (as := [.int r2]) (r := []) hc rfl rfl rfl rfl zco_57 rfl rfl rfl ?_
      refine ok_X6_rankOf (zdp hd rfl) (zwp_mono (zwp_bind h) ?_)
      rintro r3 h
      refine z_po (pc' := 64) (st' := [.int r3]) (v := (some (.int r3))) (L' := [(4, some 1, fun _ => (I 4 1)), (4, some 2, fun _ => (I 4 2)), (4, some 3, fun _ => (I 4 3)), (4, some 4, fun _ => (I 4 4)), (4, some 5, fun _ => (I 4 5)), (5, none, (I 5)), (28, some 2, fun _ => (I 28 2)), (30, none, (I 30))]) (K' := []) zco_57 rfl rfl rfl rfl rfl rfl rfl rfl ?_
      refine g_istore (pc' := 66) (ls1 := [some (.ref 4), some (.ref 1), some (.ref 28), some (.int r2), some (.int r3), none]) hc rfl (zlt rfl) rfl rfl ?_
      refine g_iload (pc' := 68)  hc rfl rfl rfl ?_
      refine g_bipush (pc' := 70) (v := (-14 : Int32)) hc rfl zkb_m14 rfl ?_
      refine z_stat (as := [.int (-14 : Int32)]) (r := [.int r3]) hc rfl rfl rfl rfl zco_57 rfl rfl rfl ?_
      refine ok_X6_rankOf (zdp hd rfl) (zwp_mono (zwp_bind h) ?_)
      rintro r4 h
      refine z_po (pc' := 73) (st' := [.int r4, .int r3]) (v := (some (.int r4))) (L' := [(4, some 1, fun _ => (I 4 1)), (4, some 2, fun _ => (I 4 2)), (4, some 3, fun _ => (I 4 3)), (4, some 4, fun _ => (I 4 4)), (4, some 5, fun _ => (I 4 5)), (5, none, (I 5)), (28, some 2, fun _ => (I 28 2)), (30, none, (I 30))]) (K' := []) zco_57 rfl rfl rfl rfl rfl rfl rfl rfl ?_
      refine zjn (G := (fun (j5 : Int32) => pm_ev C_X6_readOperator (d + 1) (pm_call M cost zext d) cost (false, false) 108 0 0 Q 81 [some (.ref 4), some (.ref 1), some (.ref 28), some (.int r2), some (.int r3), none] [.int j5] 0 0 (zS p q I [(4, some 1, fun _ => (I 4 1)), (4, some 2, fun _ => (I 4 2)), (4, some 3, fun _ => (I 4 3)), (4, some 4, fun _ => (I 4 4)), (4, some 5, fun _ => (I 4 5)), (5, none, (I 5)), (28, some 2, fun _ => (I 28 2)), (30, none, (I 30))] J []))) (zwp_bind h) ?_ (fun h => ?_)
      · rintro j5 h
        refine g_istore (pc' := 83) (ls1 := [some (.ref 4), some (.ref 1), some (.ref 28), some (.int r2), some (.int r3), some (.int j5)]) hc rfl (zlt rfl) rfl rfl ?_
        refine g_aload_n (pc' := 84)  hc rfl rfl rfl rfl ?_
        refine g_aload_n (pc' := 85)  hc rfl rfl rfl rfl ?_
        refine g_iload (pc' := 87)  hc rfl rfl rfl ?_
        refine zjn (G := (fun (j6 : Int32) => pm_ev C_X6_readOperator (d + 1) (pm_call M cost zext d) cost (false, false) 108 0 0 Q 99 [some (.ref 4), some (.ref 1), some (.ref 28), some (.int r2), some (.int r3), some (.int j5)] [.int j6, .ref 28, .ref 4] 0 0 (zS p q I [(4, some 1, fun _ => (I 4 1)), (4, some 2, fun _ => (I 4 2)), (4, some 3, fun _ => (I 4 3)), (4, some 4, fun _ => (I 4 4)), (4, some 5, fun _ => (I 4 5)), (5, none, (I 5)), (28, some 2, fun _ => (I 28 2)), (30, none, (I 30))] J []))) (zwp_bind h) ?_ (fun h => ?_)
        · rintro j6 h
          refine z_virt (as := [.ref 28, .int j6]) (a := 4) (r := []) hc rfl rfl rfl rfl sh_4 rfl zco_59 rfl rfl rfl ?_
          refine ok_X6_release_4_28 (zdp hd rfl) (zwp_mono (zwp_bind h) ?_)
          rintro ⟨o7, o8, o9⟩ h
          refine z_po (pc' := 102) (st' := []) (v := none) (L' := [(4, some 1, fun _ => o9), (4, some 2, fun _ => (I 4 2)), (4, some 3, fun _ => (I 4 3)), (4, some 4, fun _ => (I 4 4)), (4, some 5, fun _ => (I 4 5)), (5, none, (I 5)), (28, some 2, fun _ => o8), (30, none, o7)]) (K' := []) zco_59 rfl rfl rfl rfl rfl rfl rfl rfl ?_
          refine g_iload (pc' := 104)  hc rfl rfl rfl ?_
          refine g_if_eq (pc' := 107) hc rfl rfl (fun hx => ?_) (fun hx => ?_)
          · replace h := zwp_t h hx
            refine g_aload_n (pc' := 136)  hc rfl rfl rfl rfl ?_
            refine g_iload_n (pc' := 137)  hc rfl rfl rfl ?_
            refine z_virt (as := [.int r2]) (a := 4) (r := []) hc rfl rfl rfl rfl sh_4 rfl zco_58 rfl rfl rfl ?_
            refine ok_X6_push_4 (zdp hd rfl) (zwp_mono (zwp_bind h) ?_)
            rintro ⟨o10, o11⟩ h
            refine z_po (pc' := 140) (st' := []) (v := none) (L' := [(4, some 1, fun _ => o11), (4, some 2, fun _ => (I 4 2)), (4, some 3, fun _ => (I 4 3)), (4, some 4, fun _ => (I 4 4)), (4, some 5, fun _ => (I 4 5)), (5, none, o10), (28, some 2, fun _ => o8), (30, none, o7)]) (K' := []) zco_58 rfl rfl rfl rfl rfl rfl rfl rfl ?_
            refine g_aload_n (pc' := 141)  hc rfl rfl rfl rfl ?_
            refine g_iload (pc' := 143)  hc rfl rfl rfl ?_
            refine g_bipush (pc' := 145) (v := (-12 : Int32)) hc rfl zkb_m12 rfl ?_
            refine z_stat (as := [.int (-12 : Int32)]) (r := [.int r3, .ref 4]) hc rfl rfl rfl rfl zco_57 rfl rfl rfl ?_
            refine ok_X6_rankOf (zdp hd rfl) (zwp_mono (zwp_bind h) ?_)
            rintro r12 h
            refine z_po (pc' := 148) (st' := [.int r12, .int r3, .ref 4]) (v := (some (.int r12))) (L' := [(4, some 1, fun _ => o11), (4, some 2, fun _ => (I 4 2)), (4, some 3, fun _ => (I 4 3)), (4, some 4, fun _ => (I 4 4)), (4, some 5, fun _ => (I 4 5)), (5, none, o10), (28, some 2, fun _ => o8), (30, none, o7)]) (K' := []) zco_57 rfl rfl rfl rfl rfl rfl rfl rfl ?_
            refine zjn (G := (fun (j13 : Int32) => pm_ev C_X6_readOperator (d + 1) (pm_call M cost zext d) cost (false, false) 108 0 0 Q 156 [some (.ref 4), some (.ref 1), some (.ref 28), some (.int r2), some (.int r3), some (.int j5)] [.int j13, .ref 4] 0 0 (zS p q I [(4, some 1, fun _ => o11), (4, some 2, fun _ => (I 4 2)), (4, some 3, fun _ => (I 4 3)), (4, some 4, fun _ => (I 4 4)), (4, some 5, fun _ => (I 4 5)), (5, none, o10), (28, some 2, fun _ => o8), (30, none, o7)] J []))) (zwp_bind h) ?_ (fun h => ?_)
            · rintro j13 h
              refine z_virt (as := [.int j13]) (a := 4) (r := []) hc rfl rfl rfl rfl sh_4 rfl zco_50 rfl rfl rfl ?_
              refine ok_X6_beginPart_4 (zdp hd rfl) (zwp_mono (zwp_bind h) ?_)
              rintro ⟨o14, o15, o16⟩ h
              refine z_po (pc' := 159) (st' := []) (v := none) (L' := [(4, some 1, fun _ => o11), (4, some 2, fun _ => (I 4 2)), (4, some 3, fun _ => o15), (4, some 4, fun _ => o14), (4, some 5, fun _ => o16), (5, none, o10), (28, some 2, fun _ => o8), (30, none, o7)]) (K' := []) zco_50 rfl rfl rfl rfl rfl rfl rfl rfl ?_
              refine g_iconst (pc' := 160) (v := (0 : Int32)) hc rfl zki_0 rfl ?_
              replace h := zws h
              exact g_ireturn hc rfl rfl rfl (fun _ => ⟨rfl, rfl⟩) h
            refine g_icmp_gt (pc' := 151) hc rfl rfl (fun hx => ?_) (fun hx => ?_)
            · replace h := zwp_t h hx
              refine g_iconst (pc' := 156) (v := (0 : Int32)) hc rfl zki_0 rfl ?_
              replace h := zws h
              exact h
            · replace h := zwp_f h hx
              refine g_iconst (pc' := 152) (v := (1 : Int32)) hc rfl zki_1 rfl ?_
              refine g_goto hc rfl ?_
              replace h := zws h
              exact h
          · replace h := zwp_f h hx
            refine g_aload_n (pc' := 108)  hc rfl rfl rfl rfl ?_
            refine z_getI (pc' := 111) (v := o9) hc rfl rfl rfl sh_4 rfl rfl rfl ?_
            refine g_if_le (pc' := 114) hc rfl rfl (fun hx => ?_) (fun hx => ?_)
            · replace h := zwp_t h hx
              refine g_aload_n (pc' := 136)  hc rfl rfl rfl rfl ?_
              refine g_iload_n (pc' := 137)  hc rfl rfl rfl ?_
              refine z_virt (as := [.int r2]) (a := 4) (r := []) hc rfl rfl rfl rfl sh_4 rfl zco_58 rfl rfl rfl ?_
              refine ok_X6_push_4 (zdp hd rfl) (zwp_mono (zwp_bind h) ?_)
              rintro ⟨o17, o18⟩ h
              refine z_po (pc' := 140) (st' := []) (v := none) (L' := [(4, some 1, fun _ => o18), (4, some 2, fun _ => (I 4 2)), (4, some 3, fun _ => (I 4 3)), (4, some 4, fun _ => (I 4 4)), (4, some 5, fun _ => (I 4 5)), (5, none, o17), (28, some 2, fun _ => o8), (30, none, o7)]) (K' := []) zco_58 rfl rfl rfl rfl rfl rfl rfl rfl ?_
              refine g_aload_n (pc' := 141)  hc rfl rfl rfl rfl ?_
              refine g_iload (pc' := 143)  hc rfl rfl rfl ?_
              refine g_bipush (pc' := 145) (v := (-12 : Int32)) hc rfl zkb_m12 rfl ?_
              refine z_stat (as := [.int (-12 : Int32)]) (r := [.int r3, .ref 4]) hc rfl rfl rfl rfl zco_57 rfl rfl rfl ?_
              refine ok_X6_rankOf (zdp hd rfl) (zwp_mono (zwp_bind h) ?_)
              rintro r19 h
              refine z_po (pc' := 148) (st' := [.int r19, .int r3, .ref 4]) (v := (some (.int r19))) (L' := [(4, some 1, fun _ => o18), (4, some 2, fun _ => (I 4 2)), (4, some 3, fun _ => (I 4 3)), (4, some 4, fun _ => (I 4 4)), (4, some 5, fun _ => (I 4 5)), (5, none, o17), (28, some 2, fun _ => o8), (30, none, o7)]) (K' := []) zco_57 rfl rfl rfl rfl rfl rfl rfl rfl ?_
              refine zjn (G := (fun (j20 : Int32) => pm_ev C_X6_readOperator (d + 1) (pm_call M cost zext d) cost (false, false) 108 0 0 Q 156 [some (.ref 4), some (.ref 1), some (.ref 28), some (.int r2), some (.int r3), some (.int j5)] [.int j20, .ref 4] 0 0 (zS p q I [(4, some 1, fun _ => o18), (4, some 2, fun _ => (I 4 2)), (4, some 3, fun _ => (I 4 3)), (4, some 4, fun _ => (I 4 4)), (4, some 5, fun _ => (I 4 5)), (5, none, o17), (28, some 2, fun _ => o8), (30, none, o7)] J []))) (zwp_bind h) ?_ (fun h => ?_)
              · rintro j20 h
                refine z_virt (as := [.int j20]) (a := 4) (r := []) hc rfl rfl rfl rfl sh_4 rfl zco_50 rfl rfl rfl ?_
                refine ok_X6_beginPart_4 (zdp hd rfl) (zwp_mono (zwp_bind h) ?_)
                rintro ⟨o21, o22, o23⟩ h
                refine z_po (pc' := 159) (st' := []) (v := none) (L' := [(4, some 1, fun _ => o18), (4, some 2, fun _ => (I 4 2)), (4, some 3, fun _ => o22), (4, some 4, fun _ => o21), (4, some 5, fun _ => o23), (5, none, o17), (28, some 2, fun _ => o8), (30, none, o7)]) (K' := []) zco_50 rfl rfl rfl rfl rfl rfl rfl rfl ?_
                refine g_iconst (pc' := 160) (v := (0 : Int32)) hc rfl zki_0 rfl ?_
                replace h := zws h
                exact g_ireturn hc rfl rfl rfl (fun _ => ⟨rfl, rfl⟩) h
              refine g_icmp_gt (pc' := 151) hc rfl rfl (fun hx => ?_) (fun hx => ?_)
              · replace h := zwp_t h hx
                refine g_iconst (pc' := 156) (v := (0 : Int32)) hc rfl zki_0 rfl ?_
                replace h := zws h
                exact h
              · replace h := zwp_f h hx
                refine g_iconst (pc' := 152) (v := (1 : Int32)) hc rfl zki_1 rfl ?_
                refine g_goto hc rfl ?_
                replace h := zws h
                exact h
            · replace h := zwp_f h hx
              refine g_aload_n (pc' := 115)  hc rfl rfl rfl rfl ?_
              refine z_getR (pc' := 118)  hc rfl rfl rfl sh_4 rfl rfl ?_
              refine g_aload_n (pc' := 119)  hc rfl rfl rfl rfl ?_
              refine z_getI (pc' := 122) (v := o9) hc rfl rfl rfl sh_4 rfl rfl rfl ?_
              refine g_iconst (pc' := 123) (v := (1 : Int32)) hc rfl zki_1 rfl ?_
              refine g_isub (pc' := 124)  hc rfl rfl ?_
              have hb := (zwp_bnd h).1
              replace h := (zwp_bnd h).2
              refine z_iaload (pc' := 125) (v := (((I 5)) (o9 - (1 : Int32)).toNatClampNeg)) hc rfl rfl sh_5 hb rfl rfl ?_
              refine z_stat (as := [.int (((I 5)) (o9 - (1 : Int32)).toNatClampNeg)]) (r := []) hc rfl rfl rfl rfl zco_57 rfl rfl rfl ?_
              refine ok_X6_rankOf (zdp hd rfl) (zwp_mono (zwp_bind h) ?_)
              rintro r24 h
              refine z_po (pc' := 128) (st' := [.int r24]) (v := (some (.int r24))) (L' := [(4, some 1, fun _ => o9), (4, some 2, fun _ => (I 4 2)), (4, some 3, fun _ => (I 4 3)), (4, some 4, fun _ => (I 4 4)), (4, some 5, fun _ => (I 4 5)), (5, none, (I 5)), (28, some 2, fun _ => o8), (30, none, o7)]) (K' := []) zco_57 rfl rfl rfl rfl rfl rfl rfl rfl ?_
              refine g_iload (pc' := 130)  hc rfl rfl rfl ?_
              refine g_icmp_ne (pc' := 133) hc rfl rfl (fun hx => ?_) (fun hx => ?_)
              · replace h := zwp_f h hx
                refine g_aload_n (pc' := 136)  hc rfl rfl rfl rfl ?_
                refine g_iload_n (pc' := 137)  hc rfl rfl rfl ?_
                refine z_virt (as := [.int r2]) (a := 4) (r := []) hc rfl rfl rfl rfl sh_4 rfl zco_58 rfl rfl rfl ?_
                refine ok_X6_push_4 (zdp hd rfl) (zwp_mono (zwp_bind h) ?_)
                rintro ⟨o25, o26⟩ h
                refine z_po (pc' := 140) (st' := []) (v := none) (L' := [(4, some 1, fun _ => o26), (4, some 2, fun _ => (I 4 2)), (4, some 3, fun _ => (I 4 3)), (4, some 4, fun _ => (I 4 4)), (4, some 5, fun _ => (I 4 5)), (5, none, o25), (28, some 2, fun _ => o8), (30, none, o7)]) (K' := []) zco_58 rfl rfl rfl rfl rfl rfl rfl rfl ?_
                refine g_aload_n (pc' := 141)  hc rfl rfl rfl rfl ?_
                refine g_iload (pc' := 143)  hc rfl rfl rfl ?_
                refine g_bipush (pc' := 145) (v := (-12 : Int32)) hc rfl zkb_m12 rfl ?_
                refine z_stat (as := [.int (-12 : Int32)]) (r := [.int r3, .ref 4]) hc rfl rfl rfl rfl zco_57 rfl rfl rfl ?_
                refine ok_X6_rankOf (zdp hd rfl) (zwp_mono (zwp_bind h) ?_)
                rintro r27 h
                refine z_po (pc' := 148) (st' := [.int r27, .int r3, .ref 4]) (v := (some (.int r27))) (L' := [(4, some 1, fun _ => o26), (4, some 2, fun _ => (I 4 2)), (4, some 3, fun _ => (I 4 3)), (4, some 4, fun _ => (I 4 4)), (4, some 5, fun _ => (I 4 5)), (5, none, o25), (28, some 2, fun _ => o8), (30, none, o7)]) (K' := []) zco_57 rfl rfl rfl rfl rfl rfl rfl rfl ?_
                refine zjn (G := (fun (j28 : Int32) => pm_ev C_X6_readOperator (d + 1) (pm_call M cost zext d) cost (false, false) 108 0 0 Q 156 [some (.ref 4), some (.ref 1), some (.ref 28), some (.int r2), some (.int r3), some (.int j5)] [.int j28, .ref 4] 0 0 (zS p q I [(4, some 1, fun _ => o26), (4, some 2, fun _ => (I 4 2)), (4, some 3, fun _ => (I 4 3)), (4, some 4, fun _ => (I 4 4)), (4, some 5, fun _ => (I 4 5)), (5, none, o25), (28, some 2, fun _ => o8), (30, none, o7)] J []))) (zwp_bind h) ?_ (fun h => ?_)
                · rintro j28 h
                  refine z_virt (as := [.int j28]) (a := 4) (r := []) hc rfl rfl rfl rfl sh_4 rfl zco_50 rfl rfl rfl ?_
                  refine ok_X6_beginPart_4 (zdp hd rfl) (zwp_mono (zwp_bind h) ?_)
                  rintro ⟨o29, o30, o31⟩ h
                  refine z_po (pc' := 159) (st' := []) (v := none) (L' := [(4, some 1, fun _ => o26), (4, some 2, fun _ => (I 4 2)), (4, some 3, fun _ => o30), (4, some 4, fun _ => o29), (4, some 5, fun _ => o31), (5, none, o25), (28, some 2, fun _ => o8), (30, none, o7)]) (K' := []) zco_50 rfl rfl rfl rfl rfl rfl rfl rfl ?_
                  refine g_iconst (pc' := 160) (v := (0 : Int32)) hc rfl zki_0 rfl ?_
                  replace h := zws h
                  exact g_ireturn hc rfl rfl rfl (fun _ => ⟨rfl, rfl⟩) h
                refine g_icmp_gt (pc' := 151) hc rfl rfl (fun hx => ?_) (fun hx => ?_)
                · replace h := zwp_t h hx
                  refine g_iconst (pc' := 156) (v := (0 : Int32)) hc rfl zki_0 rfl ?_
                  replace h := zws h
                  exact h
                · replace h := zwp_f h hx
                  refine g_iconst (pc' := 152) (v := (1 : Int32)) hc rfl zki_1 rfl ?_
                  refine g_goto hc rfl ?_
                  replace h := zws h
                  exact h
              · replace h := zwp_t h hx
                refine g_iconst (pc' := 134) (v := (1 : Int32)) hc rfl zki_1 rfl ?_
                replace h := zws h
                exact g_ireturn hc rfl rfl rfl (fun _ => ⟨rfl, rfl⟩) h
        refine g_if_eq (pc' := 90) hc rfl rfl (fun hx => ?_) (fun hx => ?_)
        · replace h := zwp_t h hx
          refine g_iload (pc' := 99)  hc rfl rfl rfl ?_
          replace h := zws h
          exact h
        · replace h := zwp_f h hx
          refine g_iload (pc' := 92)  hc rfl rfl rfl ?_
          refine g_iconst (pc' := 93) (v := (1 : Int32)) hc rfl zki_1 rfl ?_
          refine g_iadd (pc' := 94)  hc rfl rfl ?_
          refine g_goto hc rfl ?_
          replace h := zws h
          exact h
      refine g_icmp_ne (pc' := 76) hc rfl rfl (fun hx => ?_) (fun hx => ?_)
      · replace h := zwp_f h hx
        refine g_iconst (pc' := 81) (v := (0 : Int32)) hc rfl zki_0 rfl ?_
        replace h := zws h
        exact h
      · replace h := zwp_t h hx
        refine g_iconst (pc' := 77) (v := (1 : Int32)) hc rfl zki_1 rfl ?_
        refine g_goto hc rfl ?_
        replace h := zws h
        exact h
    · replace h := zwp_t h hx
      refine g_iconst (pc' := 59) (v := (1 : Int32)) hc rfl zki_1 rfl ?_
      replace h := zws h
      exact g_ireturn hc rfl rfl rfl (fun _ => ⟨rfl, rfl⟩) h
  · replace h := zwp_f h hx
    refine g_aload_n (pc' := 10)  hc rfl rfl rfl rfl ?_
    refine z_getI (pc' := 13) (v := (I 4 2)) hc rfl rfl rfl sh_4 rfl rfl rfl ?_
    refine g_if_le (pc' := 16) hc rfl rfl (fun hx => ?_) (fun hx => ?_)
    · replace h := zwp_t h hx
      refine g_aload_n (pc' := 49)  hc rfl rfl rfl rfl ?_
      refine z_stat (as := [.ref 1]) (r := []) hc rfl rfl rfl rfl zco_56 rfl rfl rfl ?_
      refine ok_X6_operatorOf_1 (zdp hd rfl) (zwp_mono (zwp_bind h) ?_)
      rintro r32 h
      refine z_po (pc' := 52) (st' := [.int r32]) (v := (some (.int r32))) (L' := [(4, some 1, fun _ => (I 4 1)), (4, some 2, fun _ => (I 4 2)), (4, some 3, fun _ => (I 4 3)), (4, some 4, fun _ => (I 4 4)), (4, some 5, fun _ => (I 4 5)), (5, none, (I 5)), (28, some 2, fun _ => (I 28 2)), (30, none, (I 30))]) (K' := []) zco_56 rfl rfl rfl rfl rfl rfl rfl rfl ?_
      refine g_istore_n (pc' := 53) (ls1 := [some (.ref 4), some (.ref 1), some (.ref 28), some (.int r32), none, none]) hc rfl (zlt rfl) rfl rfl ?_
      refine g_iload_n (pc' := 54)  hc rfl rfl rfl ?_
      refine g_iconst (pc' := 55) (v := (-1 : Int32)) hc rfl zki_m1 rfl ?_
      refine g_icmp_ne (pc' := 58) hc rfl rfl (fun hx => ?_) (fun hx => ?_)
      · replace h := zwp_f h hx
        refine g_iload_n (pc' := 61)  hc rfl rfl rfl ?_
        refine z_stat (as := [.int r32]) (r := []) hc rfl rfl rfl rfl zco_57 rfl rfl rfl ?_
        refine ok_X6_rankOf (zdp hd rfl) (zwp_mono (zwp_bind h) ?_)
        rintro r33 h
        refine z_po (pc' := 64) (st' := [.int r33]) (v := (some (.int r33))) (L' := [(4, some 1, fun _ => (I 4 1)), (4, some 2, fun _ => (I 4 2)), (4, some 3, fun _ => (I 4 3)), (4, some 4, fun _ => (I 4 4)), (4, some 5, fun _ => (I 4 5)), (5, none, (I 5)), (28, some 2, fun _ => (I 28 2)), (30, none, (I 30))]) (K' := []) zco_57 rfl rfl rfl rfl rfl rfl rfl rfl ?_
        refine g_istore (pc' := 66) (ls1 := [some (.ref 4), some (.ref 1), some (.ref 28), some (.int r32), some (.int r33), none]) hc rfl (zlt rfl) rfl rfl ?_
        refine g_iload (pc' := 68)  hc rfl rfl rfl ?_
        refine g_bipush (pc' := 70) (v := (-14 : Int32)) hc rfl zkb_m14 rfl ?_
        refine z_stat (as := [.int (-14 : Int32)]) (r := [.int r33]) hc rfl rfl rfl rfl zco_57 rfl rfl rfl ?_
        refine ok_X6_rankOf (zdp hd rfl) (zwp_mono (zwp_bind h) ?_)
        rintro r34 h
        refine z_po (pc' := 73) (st' := [.int r34, .int r33]) (v := (some (.int r34))) (L' := [(4, some 1, fun _ => (I 4 1)), (4, some 2, fun _ => (I 4 2)), (4, some 3, fun _ => (I 4 3)), (4, some 4, fun _ => (I 4 4)), (4, some 5, fun _ => (I 4 5)), (5, none, (I 5)), (28, some 2, fun _ => (I 28 2)), (30, none, (I 30))]) (K' := []) zco_57 rfl rfl rfl rfl rfl rfl rfl rfl ?_
        refine zjn (G := (fun (j35 : Int32) => pm_ev C_X6_readOperator (d + 1) (pm_call M cost zext d) cost (false, false) 108 0 0 Q 81 [some (.ref 4), some (.ref 1), some (.ref 28), some (.int r32), some (.int r33), none] [.int j35] 0 0 (zS p q I [(4, some 1, fun _ => (I 4 1)), (4, some 2, fun _ => (I 4 2)), (4, some 3, fun _ => (I 4 3)), (4, some 4, fun _ => (I 4 4)), (4, some 5, fun _ => (I 4 5)), (5, none, (I 5)), (28, some 2, fun _ => (I 28 2)), (30, none, (I 30))] J []))) (zwp_bind h) ?_ (fun h => ?_)
        · rintro j35 h
          refine g_istore (pc' := 83) (ls1 := [some (.ref 4), some (.ref 1), some (.ref 28), some (.int r32), some (.int r33), some (.int j35)]) hc rfl (zlt rfl) rfl rfl ?_
          refine g_aload_n (pc' := 84)  hc rfl rfl rfl rfl ?_
          refine g_aload_n (pc' := 85)  hc rfl rfl rfl rfl ?_
          refine g_iload (pc' := 87)  hc rfl rfl rfl ?_
          refine zjn (G := (fun (j36 : Int32) => pm_ev C_X6_readOperator (d + 1) (pm_call M cost zext d) cost (false, false) 108 0 0 Q 99 [some (.ref 4), some (.ref 1), some (.ref 28), some (.int r32), some (.int r33), some (.int j35)] [.int j36, .ref 28, .ref 4] 0 0 (zS p q I [(4, some 1, fun _ => (I 4 1)), (4, some 2, fun _ => (I 4 2)), (4, some 3, fun _ => (I 4 3)), (4, some 4, fun _ => (I 4 4)), (4, some 5, fun _ => (I 4 5)), (5, none, (I 5)), (28, some 2, fun _ => (I 28 2)), (30, none, (I 30))] J []))) (zwp_bind h) ?_ (fun h => ?_)
          · rintro j36 h
            refine z_virt (as := [.ref 28, .int j36]) (a := 4) (r := []) hc rfl rfl rfl rfl sh_4 rfl zco_59 rfl rfl rfl ?_
            refine ok_X6_release_4_28 (zdp hd rfl) (zwp_mono (zwp_bind h) ?_)
            rintro ⟨o37, o38, o39⟩ h
            refine z_po (pc' := 102) (st' := []) (v := none) (L' := [(4, some 1, fun _ => o39), (4, some 2, fun _ => (I 4 2)), (4, some 3, fun _ => (I 4 3)), (4, some 4, fun _ => (I 4 4)), (4, some 5, fun _ => (I 4 5)), (5, none, (I 5)), (28, some 2, fun _ => o38), (30, none, o37)]) (K' := []) zco_59 rfl rfl rfl rfl rfl rfl rfl rfl ?_
            refine g_iload (pc' := 104)  hc rfl rfl rfl ?_
            refine g_if_eq (pc' := 107) hc rfl rfl (fun hx => ?_) (fun hx => ?_)
            · replace h := zwp_t h hx
              refine g_aload_n (pc' := 136)  hc rfl rfl rfl rfl ?_
              refine g_iload_n (pc' := 137)  hc rfl rfl rfl ?_
              refine z_virt (as := [.int r32]) (a := 4) (r := []) hc rfl rfl rfl rfl sh_4 rfl zco_58 rfl rfl rfl ?_
              refine ok_X6_push_4 (zdp hd rfl) (zwp_mono (zwp_bind h) ?_)
              rintro ⟨o40, o41⟩ h
              refine z_po (pc' := 140) (st' := []) (v := none) (L' := [(4, some 1, fun _ => o41), (4, some 2, fun _ => (I 4 2)), (4, some 3, fun _ => (I 4 3)), (4, some 4, fun _ => (I 4 4)), (4, some 5, fun _ => (I 4 5)), (5, none, o40), (28, some 2, fun _ => o38), (30, none, o37)]) (K' := []) zco_58 rfl rfl rfl rfl rfl rfl rfl rfl ?_
              refine g_aload_n (pc' := 141)  hc rfl rfl rfl rfl ?_
              refine g_iload (pc' := 143)  hc rfl rfl rfl ?_
              refine g_bipush (pc' := 145) (v := (-12 : Int32)) hc rfl zkb_m12 rfl ?_
              refine z_stat (as := [.int (-12 : Int32)]) (r := [.int r33, .ref 4]) hc rfl rfl rfl rfl zco_57 rfl rfl rfl ?_
              refine ok_X6_rankOf (zdp hd rfl) (zwp_mono (zwp_bind h) ?_)
              rintro r42 h
              refine z_po (pc' := 148) (st' := [.int r42, .int r33, .ref 4]) (v := (some (.int r42))) (L' := [(4, some 1, fun _ => o41), (4, some 2, fun _ => (I 4 2)), (4, some 3, fun _ => (I 4 3)), (4, some 4, fun _ => (I 4 4)), (4, some 5, fun _ => (I 4 5)), (5, none, o40), (28, some 2, fun _ => o38), (30, none, o37)]) (K' := []) zco_57 rfl rfl rfl rfl rfl rfl rfl rfl ?_
              refine zjn (G := (fun (j43 : Int32) => pm_ev C_X6_readOperator (d + 1) (pm_call M cost zext d) cost (false, false) 108 0 0 Q 156 [some (.ref 4), some (.ref 1), some (.ref 28), some (.int r32), some (.int r33), some (.int j35)] [.int j43, .ref 4] 0 0 (zS p q I [(4, some 1, fun _ => o41), (4, some 2, fun _ => (I 4 2)), (4, some 3, fun _ => (I 4 3)), (4, some 4, fun _ => (I 4 4)), (4, some 5, fun _ => (I 4 5)), (5, none, o40), (28, some 2, fun _ => o38), (30, none, o37)] J []))) (zwp_bind h) ?_ (fun h => ?_)
              · rintro j43 h
                refine z_virt (as := [.int j43]) (a := 4) (r := []) hc rfl rfl rfl rfl sh_4 rfl zco_50 rfl rfl rfl ?_
                refine ok_X6_beginPart_4 (zdp hd rfl) (zwp_mono (zwp_bind h) ?_)
                rintro ⟨o44, o45, o46⟩ h
                refine z_po (pc' := 159) (st' := []) (v := none) (L' := [(4, some 1, fun _ => o41), (4, some 2, fun _ => (I 4 2)), (4, some 3, fun _ => o45), (4, some 4, fun _ => o44), (4, some 5, fun _ => o46), (5, none, o40), (28, some 2, fun _ => o38), (30, none, o37)]) (K' := []) zco_50 rfl rfl rfl rfl rfl rfl rfl rfl ?_
                refine g_iconst (pc' := 160) (v := (0 : Int32)) hc rfl zki_0 rfl ?_
                replace h := zws h
                exact g_ireturn hc rfl rfl rfl (fun _ => ⟨rfl, rfl⟩) h
              refine g_icmp_gt (pc' := 151) hc rfl rfl (fun hx => ?_) (fun hx => ?_)
              · replace h := zwp_t h hx
                refine g_iconst (pc' := 156) (v := (0 : Int32)) hc rfl zki_0 rfl ?_
                replace h := zws h
                exact h
              · replace h := zwp_f h hx
                refine g_iconst (pc' := 152) (v := (1 : Int32)) hc rfl zki_1 rfl ?_
                refine g_goto hc rfl ?_
                replace h := zws h
                exact h
            · replace h := zwp_f h hx
              refine g_aload_n (pc' := 108)  hc rfl rfl rfl rfl ?_
              refine z_getI (pc' := 111) (v := o39) hc rfl rfl rfl sh_4 rfl rfl rfl ?_
              refine g_if_le (pc' := 114) hc rfl rfl (fun hx => ?_) (fun hx => ?_)
              · replace h := zwp_t h hx
                refine g_aload_n (pc' := 136)  hc rfl rfl rfl rfl ?_
                refine g_iload_n (pc' := 137)  hc rfl rfl rfl ?_
                refine z_virt (as := [.int r32]) (a := 4) (r := []) hc rfl rfl rfl rfl sh_4 rfl zco_58 rfl rfl rfl ?_
                refine ok_X6_push_4 (zdp hd rfl) (zwp_mono (zwp_bind h) ?_)
                rintro ⟨o47, o48⟩ h
                refine z_po (pc' := 140) (st' := []) (v := none) (L' := [(4, some 1, fun _ => o48), (4, some 2, fun _ => (I 4 2)), (4, some 3, fun _ => (I 4 3)), (4, some 4, fun _ => (I 4 4)), (4, some 5, fun _ => (I 4 5)), (5, none, o47), (28, some 2, fun _ => o38), (30, none, o37)]) (K' := []) zco_58 rfl rfl rfl rfl rfl rfl rfl rfl ?_
                refine g_aload_n (pc' := 141)  hc rfl rfl rfl rfl ?_
                refine g_iload (pc' := 143)  hc rfl rfl rfl ?_
                refine g_bipush (pc' := 145) (v := (-12 : Int32)) hc rfl zkb_m12 rfl ?_
                refine z_stat (as := [.int (-12 : Int32)]) (r := [.int r33, .ref 4]) hc rfl rfl rfl rfl zco_57 rfl rfl rfl ?_
                refine ok_X6_rankOf (zdp hd rfl) (zwp_mono (zwp_bind h) ?_)
                rintro r49 h
                refine z_po (pc' := 148) (st' := [.int r49, .int r33, .ref 4]) (v := (some (.int r49))) (L' := [(4, some 1, fun _ => o48), (4, some 2, fun _ => (I 4 2)), (4, some 3, fun _ => (I 4 3)), (4, some 4, fun _ => (I 4 4)), (4, some 5, fun _ => (I 4 5)), (5, none, o47), (28, some 2, fun _ => o38), (30, none, o37)]) (K' := []) zco_57 rfl rfl rfl rfl rfl rfl rfl rfl ?_
                refine zjn (G := (fun (j50 : Int32) => pm_ev C_X6_readOperator (d + 1) (pm_call M cost zext d) cost (false, false) 108 0 0 Q 156 [some (.ref 4), some (.ref 1), some (.ref 28), some (.int r32), some (.int r33), some (.int j35)] [.int j50, .ref 4] 0 0 (zS p q I [(4, some 1, fun _ => o48), (4, some 2, fun _ => (I 4 2)), (4, some 3, fun _ => (I 4 3)), (4, some 4, fun _ => (I 4 4)), (4, some 5, fun _ => (I 4 5)), (5, none, o47), (28, some 2, fun _ => o38), (30, none, o37)] J []))) (zwp_bind h) ?_ (fun h => ?_)
                · rintro j50 h
                  refine z_virt (as := [.int j50]) (a := 4) (r := []) hc rfl rfl rfl rfl sh_4 rfl zco_50 rfl rfl rfl ?_
                  refine ok_X6_beginPart_4 (zdp hd rfl) (zwp_mono (zwp_bind h) ?_)
                  rintro ⟨o51, o52, o53⟩ h
                  refine z_po (pc' := 159) (st' := []) (v := none) (L' := [(4, some 1, fun _ => o48), (4, some 2, fun _ => (I 4 2)), (4, some 3, fun _ => o52), (4, some 4, fun _ => o51), (4, some 5, fun _ => o53), (5, none, o47), (28, some 2, fun _ => o38), (30, none, o37)]) (K' := []) zco_50 rfl rfl rfl rfl rfl rfl rfl rfl ?_
                  refine g_iconst (pc' := 160) (v := (0 : Int32)) hc rfl zki_0 rfl ?_
                  replace h := zws h
                  exact g_ireturn hc rfl rfl rfl (fun _ => ⟨rfl, rfl⟩) h
                refine g_icmp_gt (pc' := 151) hc rfl rfl (fun hx => ?_) (fun hx => ?_)
                · replace h := zwp_t h hx
                  refine g_iconst (pc' := 156) (v := (0 : Int32)) hc rfl zki_0 rfl ?_
                  replace h := zws h
                  exact h
                · replace h := zwp_f h hx
                  refine g_iconst (pc' := 152) (v := (1 : Int32)) hc rfl zki_1 rfl ?_
                  refine g_goto hc rfl ?_
                  replace h := zws h
                  exact h
              · replace h := zwp_f h hx
                refine g_aload_n (pc' := 115)  hc rfl rfl rfl rfl ?_
                refine z_getR (pc' := 118)  hc rfl rfl rfl sh_4 rfl rfl ?_
                refine g_aload_n (pc' := 119)  hc rfl rfl rfl rfl ?_
                refine z_getI (pc' := 122) (v := o39) hc rfl rfl rfl sh_4 rfl rfl rfl ?_
                refine g_iconst (pc' := 123) (v := (1 : Int32)) hc rfl zki_1 rfl ?_
                refine g_isub (pc' := 124)  hc rfl rfl ?_
                have hb := (zwp_bnd h).1
                replace h := (zwp_bnd h).2
                refine z_iaload (pc' := 125) (v := (((I 5)) (o39 - (1 : Int32)).toNatClampNeg)) hc rfl rfl sh_5 hb rfl rfl ?_
                refine z_stat (as := [.int (((I 5)) (o39 - (1 : Int32)).toNatClampNeg)]) (r := []) hc rfl rfl rfl rfl zco_57 rfl rfl rfl ?_
                refine ok_X6_rankOf (zdp hd rfl) (zwp_mono (zwp_bind h) ?_)
                rintro r54 h
                refine z_po (pc' := 128) (st' := [.int r54]) (v := (some (.int r54))) (L' := [(4, some 1, fun _ => o39), (4, some 2, fun _ => (I 4 2)), (4, some 3, fun _ => (I 4 3)), (4, some 4, fun _ => (I 4 4)), (4, some 5, fun _ => (I 4 5)), (5, none, (I 5)), (28, some 2, fun _ => o38), (30, none, o37)]) (K' := []) zco_57 rfl rfl rfl rfl rfl rfl rfl rfl ?_
                refine g_iload (pc' := 130)  hc rfl rfl rfl ?_
                refine g_icmp_ne (pc' := 133) hc rfl rfl (fun hx => ?_) (fun hx => ?_)
                · replace h := zwp_f h hx
                  refine g_aload_n (pc' := 136)  hc rfl rfl rfl rfl ?_
                  refine g_iload_n (pc' := 137)  hc rfl rfl rfl ?_
                  refine z_virt (as := [.int r32]) (a := 4) (r := []) hc rfl rfl rfl rfl sh_4 rfl zco_58 rfl rfl rfl ?_
                  refine ok_X6_push_4 (zdp hd rfl) (zwp_mono (zwp_bind h) ?_)
                  rintro ⟨o55, o56⟩ h
                  refine z_po (pc' := 140) (st' := []) (v := none) (L' := [(4, some 1, fun _ => o56), (4, some 2, fun _ => (I 4 2)), (4, some 3, fun _ => (I 4 3)), (4, some 4, fun _ => (I 4 4)), (4, some 5, fun _ => (I 4 5)), (5, none, o55), (28, some 2, fun _ => o38), (30, none, o37)]) (K' := []) zco_58 rfl rfl rfl rfl rfl rfl rfl rfl ?_
                  refine g_aload_n (pc' := 141)  hc rfl rfl rfl rfl ?_
                  refine g_iload (pc' := 143)  hc rfl rfl rfl ?_
                  refine g_bipush (pc' := 145) (v := (-12 : Int32)) hc rfl zkb_m12 rfl ?_
                  refine z_stat (as := [.int (-12 : Int32)]) (r := [.int r33, .ref 4]) hc rfl rfl rfl rfl zco_57 rfl rfl rfl ?_
                  refine ok_X6_rankOf (zdp hd rfl) (zwp_mono (zwp_bind h) ?_)
                  rintro r57 h
                  refine z_po (pc' := 148) (st' := [.int r57, .int r33, .ref 4]) (v := (some (.int r57))) (L' := [(4, some 1, fun _ => o56), (4, some 2, fun _ => (I 4 2)), (4, some 3, fun _ => (I 4 3)), (4, some 4, fun _ => (I 4 4)), (4, some 5, fun _ => (I 4 5)), (5, none, o55), (28, some 2, fun _ => o38), (30, none, o37)]) (K' := []) zco_57 rfl rfl rfl rfl rfl rfl rfl rfl ?_
                  refine zjn (G := (fun (j58 : Int32) => pm_ev C_X6_readOperator (d + 1) (pm_call M cost zext d) cost (false, false) 108 0 0 Q 156 [some (.ref 4), some (.ref 1), some (.ref 28), some (.int r32), some (.int r33), some (.int j35)] [.int j58, .ref 4] 0 0 (zS p q I [(4, some 1, fun _ => o56), (4, some 2, fun _ => (I 4 2)), (4, some 3, fun _ => (I 4 3)), (4, some 4, fun _ => (I 4 4)), (4, some 5, fun _ => (I 4 5)), (5, none, o55), (28, some 2, fun _ => o38), (30, none, o37)] J []))) (zwp_bind h) ?_ (fun h => ?_)
                  · rintro j58 h
                    refine z_virt (as := [.int j58]) (a := 4) (r := []) hc rfl rfl rfl rfl sh_4 rfl zco_50 rfl rfl rfl ?_
                    refine ok_X6_beginPart_4 (zdp hd rfl) (zwp_mono (zwp_bind h) ?_)
                    rintro ⟨o59, o60, o61⟩ h
                    refine z_po (pc' := 159) (st' := []) (v := none) (L' := [(4, some 1, fun _ => o56), (4, some 2, fun _ => (I 4 2)), (4, some 3, fun _ => o60), (4, some 4, fun _ => o59), (4, some 5, fun _ => o61), (5, none, o55), (28, some 2, fun _ => o38), (30, none, o37)]) (K' := []) zco_50 rfl rfl rfl rfl rfl rfl rfl rfl ?_
                    refine g_iconst (pc' := 160) (v := (0 : Int32)) hc rfl zki_0 rfl ?_
                    replace h := zws h
                    exact g_ireturn hc rfl rfl rfl (fun _ => ⟨rfl, rfl⟩) h
                  refine g_icmp_gt (pc' := 151) hc rfl rfl (fun hx => ?_) (fun hx => ?_)
                  · replace h := zwp_t h hx
                    refine g_iconst (pc' := 156) (v := (0 : Int32)) hc rfl zki_0 rfl ?_
                    replace h := zws h
                    exact h
                  · replace h := zwp_f h hx
                    refine g_iconst (pc' := 152) (v := (1 : Int32)) hc rfl zki_1 rfl ?_
                    refine g_goto hc rfl ?_
                    replace h := zws h
                    exact h
                · replace h := zwp_t h hx
                  refine g_iconst (pc' := 134) (v := (1 : Int32)) hc rfl zki_1 rfl ?_
                  replace h := zws h
                  exact g_ireturn hc rfl rfl rfl (fun _ => ⟨rfl, rfl⟩) h
          refine g_if_eq (pc' := 90) hc rfl rfl (fun hx => ?_) (fun hx => ?_)
          · replace h := zwp_t h hx
            refine g_iload (pc' := 99)  hc rfl rfl rfl ?_
            replace h := zws h
            exact h
          · replace h := zwp_f h hx
            refine g_iload (pc' := 92)  hc rfl rfl rfl ?_
            refine g_iconst (pc' := 93) (v := (1 : Int32)) hc rfl zki_1 rfl ?_
            refine g_iadd (pc' := 94)  hc rfl rfl ?_
            refine g_goto hc rfl ?_
            replace h := zws h
            exact h
        refine g_icmp_ne (pc' := 76) hc rfl rfl (fun hx => ?_) (fun hx => ?_)
        · replace h := zwp_f h hx
          refine g_iconst (pc' := 81) (v := (0 : Int32)) hc rfl zki_0 rfl ?_
          replace h := zws h
          exact h
        · replace h := zwp_t h hx
          refine g_iconst (pc' := 77) (v := (1 : Int32)) hc rfl zki_1 rfl ?_
          refine g_goto hc rfl ?_
          replace h := zws h
          exact h
      · replace h := zwp_t h hx
        refine g_iconst (pc' := 59) (v := (1 : Int32)) hc rfl zki_1 rfl ?_
        replace h := zws h
        exact g_ireturn hc rfl rfl rfl (fun _ => ⟨rfl, rfl⟩) h
    · replace h := zwp_f h hx
      refine g_aload_n (pc' := 17)  hc rfl rfl rfl rfl ?_
      refine g_aload_n (pc' := 18)  hc rfl rfl rfl rfl ?_
      refine g_iconst (pc' := 19) (v := (0 : Int32)) hc rfl zki_0 rfl ?_
      refine z_virt (as := [.ref 28, .int (0 : Int32)]) (a := 4) (r := []) hc rfl rfl rfl rfl sh_4 rfl zco_59 rfl rfl rfl ?_
      refine ok_X6_release_4_28 (zdp hd rfl) (zwp_mono (zwp_bind h) ?_)
      rintro ⟨o62, o63, o64⟩ h
      refine z_po (pc' := 22) (st' := []) (v := none) (L' := [(4, some 1, fun _ => o64), (4, some 2, fun _ => (I 4 2)), (4, some 3, fun _ => (I 4 3)), (4, some 4, fun _ => (I 4 4)), (4, some 5, fun _ => (I 4 5)), (5, none, (I 5)), (28, some 2, fun _ => o63), (30, none, o62)]) (K' := []) zco_59 rfl rfl rfl rfl rfl rfl rfl rfl ?_
      refine g_aload_n (pc' := 23)  hc rfl rfl rfl rfl ?_
      refine g_iconst (pc' := 24) (v := (0 : Int32)) hc rfl zki_0 rfl ?_
      refine g_aload_n (pc' := 25)  hc rfl rfl rfl rfl ?_
      refine z_getI (pc' := 28) (v := o64) hc rfl rfl rfl sh_4 rfl rfl rfl ?_
      refine g_iconst (pc' := 29) (v := (1 : Int32)) hc rfl zki_1 rfl ?_
      refine g_isub (pc' := 30)  hc rfl rfl ?_
      refine z_max (pc' := 33)  hc rfl rfl (zdq hd rfl) rfl rfl ?_
      refine z_putI (pc' := 36) (L' := [(4, some 1, fun _ => (if (0 : Int32) < (o64 - (1 : Int32)) then (o64 - (1 : Int32)) else (0 : Int32))), (4, some 2, fun _ => (I 4 2)), (4, some 3, fun _ => (I 4 3)), (4, some 4, fun _ => (I 4 4)), (4, some 5, fun _ => (I 4 5)), (5, none, (I 5)), (28, some 2, fun _ => o63), (30, none, o62)]) hc rfl rfl rfl sh_4 rfl zft_6_1 rfl (fun h => Bool.noConfusion h) rfl rfl rfl ?_
      refine g_aload_n (pc' := 37)  hc rfl rfl rfl rfl ?_
      refine g_dup (pc' := 38)  hc rfl rfl rfl ?_
      refine z_getI (pc' := 41) (v := (I 4 2)) hc rfl rfl rfl sh_4 rfl rfl rfl ?_
      refine g_iconst (pc' := 42) (v := (1 : Int32)) hc rfl zki_1 rfl ?_
      refine g_isub (pc' := 43)  hc rfl rfl ?_
      refine z_putI (pc' := 46) (L' := [(4, some 1, fun _ => (if (0 : Int32) < (o64 - (1 : Int32)) then (o64 - (1 : Int32)) else (0 : Int32))), (4, some 2, fun _ => (((I 4 2)) - (1 : Int32))), (4, some 3, fun _ => (I 4 3)), (4, some 4, fun _ => (I 4 4)), (4, some 5, fun _ => (I 4 5)), (5, none, (I 5)), (28, some 2, fun _ => o63), (30, none, o62)]) hc rfl rfl rfl sh_4 rfl zft_6_2 rfl (fun h => Bool.noConfusion h) rfl rfl rfl ?_
      refine g_iconst (pc' := 47) (v := (0 : Int32)) hc rfl zki_0 rfl ?_
      replace h := zws h
      exact g_ireturn hc rfl rfl rfl (fun _ => ⟨rfl, rfl⟩) h
set_option maxRecDepth 4000 in
theorem ok_X6_read_4_1_28 {p q : Nat} {I : pI} {J : pJ} {a3 : Int32} {Q : pQ} {d : Nat} (hd : 10 ≤ d) (h : zwp (f_X6_read a3 (I 4 4) (I 4 2) (I 4 3) (I 4 5) (I 30) (I 28 2) (I 2) (I 1 4) (I 1 5) (I 1 2) (I 1 6) (I 1 3) (I 5) (I 4 1)) (fun w => match w with | (r, o0, o1, o2, o3, o4, o5, o6, o7, o8, o9, o10, o11) => Q (.inl (some (.int r))) (zS p q I [(1, some 3, fun _ => o9), (1, some 4, fun _ => o6), (1, some 5, fun _ => o7), (1, some 6, fun _ => o8), (4, some 1, fun _ => o11), (4, some 2, fun _ => o1), (4, some 3, fun _ => o2), (4, some 4, fun _ => o0), (4, some 5, fun _ => o3), (5, none, o10), (28, some 2, fun _ => o5), (30, none, o4)] J []))) : pm_call M cost zext d 48 [.ref 4, .ref 1, .ref 28, .int a3] (pm_st 108 (shp p q) I J) Q := by
  obtain ⟨d, rfl⟩ := zd1 hd rfl
  have hc := pm_call_m (M := M) (cost := cost) zext_m d
  refine z_in (L := [(1, some 3, fun _ => (I 1 3)), (1, some 4, fun _ => (I 1 4)), (1, some 5, fun _ => (I 1 5)), (1, some 6, fun _ => (I 1 6)), (4, some 1, fun _ => (I 4 1)), (4, some 2, fun _ => (I 4 2)), (4, some 3, fun _ => (I 4 3)), (4, some 4, fun _ => (I 4 4)), (4, some 5, fun _ => (I 4 5)), (5, none, (I 5)), (28, some 2, fun _ => (I 28 2)), (30, none, (I 30))]) (K := []) (ls := [some (.ref 4), some (.ref 1), some (.ref 28), some (.int a3), none, none]) zmt_48 zco_48 rfl rfl (zid_s (zid_s (zid_s (zid_s (zid_s (zid_s (zid_s (zid_s (zid_s (zid_a (zid_s (zid_a zid_n)))))))))))) zid_n ?_
  delta f_X6_read at h
  refine g_aload_n (pc' := 1)  hc rfl rfl rfl rfl ?_
  refine z_virt (as := []) (a := 28) (r := []) hc rfl rfl rfl rfl sh_28 rfl zco_43 rfl rfl rfl ?_
  refine ok_X5_isTold_28 (zdp hd rfl) (zwp_mono (zwp_bind h) ?_)
  rintro r1 h
  refine z_po (pc' := 4) (st' := [.int r1]) (v := (some (.int r1))) (L' := [(1, some 3, fun _ => (I 1 3)), (1, some 4, fun _ => (I 1 4)), (1, some 5, fun _ => (I 1 5)), (1, some 6, fun _ => (I 1 6)), (4, some 1, fun _ => (I 4 1)), (4, some 2, fun _ => (I 4 2)), (4, some 3, fun _ => (I 4 3)), (4, some 4, fun _ => (I 4 4)), (4, some 5, fun _ => (I 4 5)), (5, none, (I 5)), (28, some 2, fun _ => (I 28 2)), (30, none, (I 30))]) (K' := []) zco_43 rfl rfl rfl rfl rfl rfl rfl rfl ?_
  refine g_if_eq (pc' := 7) hc rfl rfl (fun hx => ?_) (fun hx => ?_)
  · replace h := zwp_t h hx
    refine g_aload_n (pc' := 10)  hc rfl rfl rfl rfl ?_
    refine g_iconst (pc' := 11) (v := (0 : Int32)) hc rfl zki_0 rfl ?_
    refine z_putI (pc' := 14) (L' := [(1, some 3, fun _ => (I 1 3)), (1, some 4, fun _ => (I 1 4)), (1, some 5, fun _ => (I 1 5)), (1, some 6, fun _ => (I 1 6)), (4, some 1, fun _ => (0 : Int32)), (4, some 2, fun _ => (I 4 2)), (4, some 3, fun _ => (I 4 3)), (4, some 4, fun _ => (I 4 4)), (4, some 5, fun _ => (I 4 5)), (5, none, (I 5)), (28, some 2, fun _ => (I 28 2)), (30, none, (I 30))]) hc rfl rfl rfl sh_4 rfl zft_6_1 rfl (fun h => Bool.noConfusion h) rfl rfl rfl ?_
    refine g_aload_n (pc' := 15)  hc rfl rfl rfl rfl ?_
    refine g_iconst (pc' := 16) (v := (0 : Int32)) hc rfl zki_0 rfl ?_
    refine z_putI (pc' := 19) (L' := [(1, some 3, fun _ => (I 1 3)), (1, some 4, fun _ => (I 1 4)), (1, some 5, fun _ => (I 1 5)), (1, some 6, fun _ => (I 1 6)), (4, some 1, fun _ => (0 : Int32)), (4, some 2, fun _ => (0 : Int32)), (4, some 3, fun _ => (I 4 3)), (4, some 4, fun _ => (I 4 4)), (4, some 5, fun _ => (I 4 5)), (5, none, (I 5)), (28, some 2, fun _ => (I 28 2)), (30, none, (I 30))]) hc rfl rfl rfl sh_4 rfl zft_6_2 rfl (fun h => Bool.noConfusion h) rfl rfl rfl ?_
    refine g_aload_n (pc' := 20)  hc rfl rfl rfl rfl ?_
    refine g_iconst (pc' := 21) (v := (1 : Int32)) hc rfl zki_1 rfl ?_
    refine z_virt (as := [.int (1 : Int32)]) (a := 4) (r := []) hc rfl rfl rfl rfl sh_4 rfl zco_50 rfl rfl rfl ?_
    refine ok_X6_beginPart_4 (zdp hd rfl) (zwp_mono (zwp_bind h) ?_)
    rintro ⟨o2, o3, o4⟩ h
    refine z_po (pc' := 24) (st' := []) (v := none) (L' := [(1, some 3, fun _ => (I 1 3)), (1, some 4, fun _ => (I 1 4)), (1, some 5, fun _ => (I 1 5)), (1, some 6, fun _ => (I 1 6)), (4, some 1, fun _ => (0 : Int32)), (4, some 2, fun _ => (0 : Int32)), (4, some 3, fun _ => o3), (4, some 4, fun _ => o2), (4, some 5, fun _ => o4), (5, none, (I 5)), (28, some 2, fun _ => (I 28 2)), (30, none, (I 30))]) (K' := []) zco_50 rfl rfl rfl rfl rfl rfl rfl rfl ?_
    refine g_aload_n (pc' := 25)  hc rfl rfl rfl rfl ?_
    refine z_virt (as := []) (a := 1) (r := []) hc rfl rfl rfl rfl sh_1 rfl zco_83 rfl rfl rfl ?_
    refine ok_X9_advance_1 (zdp hd rfl) (zwp_mono (zwp_bind h) ?_)
    rintro ⟨o5, o6, o7, o8⟩ h
    refine z_po (pc' := 28) (st' := []) (v := none) (L' := [(1, some 3, fun _ => o8), (1, some 4, fun _ => o5), (1, some 5, fun _ => o6), (1, some 6, fun _ => o7), (4, some 1, fun _ => (0 : Int32)), (4, some 2, fun _ => (0 : Int32)), (4, some 3, fun _ => o3), (4, some 4, fun _ => o2), (4, some 5, fun _ => o4), (5, none, (I 5)), (28, some 2, fun _ => (I 28 2)), (30, none, (I 30))]) (K' := []) zco_83 rfl rfl rfl rfl rfl rfl rfl rfl ?_
    refine g_iconst (pc' := 29) (v := (0 : Int32)) hc rfl zki_0 rfl ?_
    refine g_istore (pc' := 31) (ls1 := [some (.ref 4), some (.ref 1), some (.ref 28), some (.int a3), some (.int (0 : Int32)), none]) hc rfl (zlt rfl) rfl rfl ?_
    refine g_iconst (pc' := 32) (v := (0 : Int32)) hc rfl zki_0 rfl ?_
    refine g_istore (pc' := 34) (ls1 := [some (.ref 4), some (.ref 1), some (.ref 28), some (.int a3), some (.int (0 : Int32)), some (.int (0 : Int32))]) hc rfl (zlt rfl) rfl rfl ?_
    refine zjn (G := (fun (g : Int32 × Int32 × Int32 × Int32 × Int32 × (Nat → Int32) × Int32 × Int32 × Int32 × Int32 × Int32 × (Nat → Int32) × Int32) => match g with | (y23, y25, y26, y27, y28, y29, y30, y31, y32, y33, y34, y35, y36) => ∀ z24 : Option Value, znl z24 = true → pm_ev C_X6_read (d + 1) (pm_call M cost zext d) cost (false, false) 108 0 0 Q 95 [some (.ref 4), some (.ref 1), some (.ref 28), some (.int a3), some (.int y23), z24] [] 0 0 (zS p q I [(1, some 3, fun _ => y34), (1, some 4, fun _ => y31), (1, some 5, fun _ => y32), (1, some 6, fun _ => y33), (4, some 1, fun _ => y36), (4, some 2, fun _ => y26), (4, some 3, fun _ => y27), (4, some 4, fun _ => y25), (4, some 5, fun _ => y28), (5, none, y35), (28, some 2, fun _ => y30), (30, none, y29)] J []))) (zwp_bind h) ?_ (fun h => ?_)
    · rintro ⟨y23, y25, y26, y27, y28, y29, y30, y31, y32, y33, y34, y35, y36⟩ h z24 hz24
      refine g_iload (pc' := 97)  hc rfl rfl rfl ?_
      refine g_if_ne (pc' := 100) hc rfl rfl (fun hx => ?_) (fun hx => ?_)
      · replace h := zwp_f h hx
        refine g_iload (pc' := 108)  hc rfl rfl rfl ?_
        replace h := zws h
        exact g_ireturn hc rfl rfl rfl (fun _ => ⟨rfl, rfl⟩) h
      · replace h := zwp_t h hx
        refine g_aload_n (pc' := 101)  hc rfl rfl rfl rfl ?_
        refine g_aload_n (pc' := 102)  hc rfl rfl rfl rfl ?_
        refine g_iconst (pc' := 103) (v := (0 : Int32)) hc rfl zki_0 rfl ?_
        refine z_virt (as := [.ref 28, .int (0 : Int32)]) (a := 4) (r := []) hc rfl rfl rfl rfl sh_4 rfl zco_59 rfl rfl rfl ?_
        refine ok_X6_release_4_28 (zdp hd rfl) (zwp_mono (zwp_bind h) ?_)
        rintro ⟨o37, o38, o39⟩ h
        refine z_po (pc' := 106) (st' := []) (v := none) (L' := [(1, some 3, fun _ => y34), (1, some 4, fun _ => y31), (1, some 5, fun _ => y32), (1, some 6, fun _ => y33), (4, some 1, fun _ => o39), (4, some 2, fun _ => y26), (4, some 3, fun _ => y27), (4, some 4, fun _ => y25), (4, some 5, fun _ => y28), (5, none, y35), (28, some 2, fun _ => o38), (30, none, o37)]) (K' := []) zco_59 rfl rfl rfl rfl rfl rfl rfl rfl ?_
        refine g_iload (pc' := 108)  hc rfl rfl rfl ?_
        replace h := zws h
        exact g_ireturn hc rfl rfl rfl (fun _ => ⟨rfl, rfl⟩) h
    refine zitr_ev (G := (fun (g : Int32 × Int32 × Int32 × Int32 × Int32 × Int32 × (Nat → Int32) × Int32 × Int32 × Int32 × Int32 × Int32 × (Nat → Int32) × Int32) => match g with | (x9, x10, x11, x12, x13, x14, x15, x16, x17, x18, x19, x20, x21, x22) => pm_ev C_X6_read (d + 1) (pm_call M cost zext d) cost (false, false) 108 0 0 Q 34 [some (.ref 4), some (.ref 1), some (.ref 28), some (.int a3), some (.int x9), some (.int x10)] [] 0 0 (zS p q I [(1, some 3, fun _ => x20), (1, some 4, fun _ => x17), (1, some 5, fun _ => x18), (1, some 6, fun _ => x19), (4, some 1, fun _ => x22), (4, some 2, fun _ => x12), (4, some 3, fun _ => x13), (4, some 4, fun _ => x11), (4, some 5, fun _ => x14), (5, none, x21), (28, some 2, fun _ => x16), (30, none, x15)] J []))) ?_ zFU ((0 : Int32), (0 : Int32), o2, (0 : Int32), o3, o4, (I 30), (I 28 2), o5, o6, o7, o8, (I 5), (0 : Int32)) h
    rintro ⟨x9, x10, x11, x12, x13, x14, x15, x16, x17, x18, x19, x20, x21, x22⟩ h
    refine g_iload (pc' := 36)  hc rfl rfl rfl ?_
    refine g_sipush (pc' := 39) (v := (700 : Int32)) hc rfl zks_700 rfl ?_
    refine g_icmp_ge (pc' := 42) hc rfl rfl (fun hx => ?_) (fun hx => ?_)
    · replace h := zwp_t h hx
      replace h := zwp_r h
      exact h (some (.int x10)) rfl
    · replace h := zwp_f h hx
      refine g_iload (pc' := 44)  hc rfl rfl rfl ?_
      refine g_if_ne (pc' := 47) hc rfl rfl (fun hx => ?_) (fun hx => ?_)
      · replace h := zwp_f h hx
        replace h := zwp_r h
        exact h (some (.int x10)) rfl
      · replace h := zwp_t h hx
        refine g_aload_n (pc' := 48)  hc rfl rfl rfl rfl ?_
        refine g_aload_n (pc' := 49)  hc rfl rfl rfl rfl ?_
        refine z_virt (as := [.ref 1]) (a := 4) (r := []) hc rfl rfl rfl rfl sh_4 rfl zco_49 rfl rfl rfl ?_
        refine ok_X6_isEnd_4_1 (zdp hd rfl) (zwp_mono (zwp_bind h) ?_)
        rintro r40 h
        refine z_po (pc' := 52) (st' := [.int r40]) (v := (some (.int r40))) (L' := [(1, some 3, fun _ => x20), (1, some 4, fun _ => x17), (1, some 5, fun _ => x18), (1, some 6, fun _ => x19), (4, some 1, fun _ => x22), (4, some 2, fun _ => x12), (4, some 3, fun _ => x13), (4, some 4, fun _ => x11), (4, some 5, fun _ => x14), (5, none, x21), (28, some 2, fun _ => x16), (30, none, x15)]) (K' := []) zco_49 rfl rfl rfl rfl rfl rfl rfl rfl ?_
        refine g_if_ne (pc' := 55) hc rfl rfl (fun hx => ?_) (fun hx => ?_)
        · replace h := zwp_f h hx
          replace h := zwp_r h
          exact h (some (.int x10)) rfl
        · replace h := zwp_t h hx
          refine g_aload_n (pc' := 56)  hc rfl rfl rfl rfl ?_
          refine z_getI (pc' := 59) (v := x14) hc rfl rfl rfl sh_4 rfl rfl rfl ?_
          refine zjn (G := (fun (g : Int32 × Int32 × Int32 × Int32 × Int32 × (Nat → Int32) × Int32 × (Nat → Int32) × Int32) => match g with | (j41, j42, j43, j44, j45, j46, j47, j48, j49) => pm_ev C_X6_read (d + 1) (pm_call M cost zext d) cost (false, false) 108 0 0 Q 78 [some (.ref 4), some (.ref 1), some (.ref 28), some (.int a3), some (.int x9), some (.int x10)] [.int j41] 0 0 (zS p q I [(1, some 3, fun _ => x20), (1, some 4, fun _ => x17), (1, some 5, fun _ => x18), (1, some 6, fun _ => x19), (4, some 1, fun _ => j49), (4, some 2, fun _ => j43), (4, some 3, fun _ => j44), (4, some 4, fun _ => j42), (4, some 5, fun _ => j45), (5, none, j48), (28, some 2, fun _ => j47), (30, none, j46)] J []))) (zwp_bind h) ?_ (fun h => ?_)
          · rintro ⟨j41, j42, j43, j44, j45, j46, j47, j48, j49⟩ h
            refine g_istore (pc' := 80) (ls1 := [some (.ref 4), some (.ref 1), some (.ref 28), some (.int a3), some (.int j41), some (.int x10)]) hc rfl (zlt rfl) rfl rfl ?_
            refine g_iload (pc' := 82)  hc rfl rfl rfl ?_
            refine g_if_ne (pc' := 85) hc rfl rfl (fun hx => ?_) (fun hx => ?_)
            · replace h := zwp_f h hx
              refine g_iinc (pc' := 92) (ls1 := [some (.ref 4), some (.ref 1), some (.ref 28), some (.int a3), some (.int j41), some (.int (x10 + (1 : Int32)))]) hc rfl rfl zki_1 (zlt rfl) rfl rfl ?_
              refine g_goto hc rfl ?_
              replace h := zwp_l h
              exact h
            · replace h := zwp_t h hx
              refine g_aload_n (pc' := 86)  hc rfl rfl rfl rfl ?_
              refine z_virt (as := []) (a := 1) (r := []) hc rfl rfl rfl rfl sh_1 rfl zco_83 rfl rfl rfl ?_
              refine ok_X9_advance_1 (zdp hd rfl) (zwp_mono (zwp_bind h) ?_)
              rintro ⟨o50, o51, o52, o53⟩ h
              refine z_po (pc' := 89) (st' := []) (v := none) (L' := [(1, some 3, fun _ => o53), (1, some 4, fun _ => o50), (1, some 5, fun _ => o51), (1, some 6, fun _ => o52), (4, some 1, fun _ => j49), (4, some 2, fun _ => j43), (4, some 3, fun _ => j44), (4, some 4, fun _ => j42), (4, some 5, fun _ => j45), (5, none, j48), (28, some 2, fun _ => j47), (30, none, j46)]) (K' := []) zco_83 rfl rfl rfl rfl rfl rfl rfl rfl ?_
              refine g_iinc (pc' := 92) (ls1 := [some (.ref 4), some (.ref 1), some (.ref 28), some (.int a3), some (.int j41), some (.int (x10 + (1 : Int32)))]) hc rfl rfl zki_1 (zlt rfl) rfl rfl ?_
              refine g_goto hc rfl ?_
              replace h := zwp_l h
              exact h
          refine g_if_eq (pc' := 62) hc rfl rfl (fun hx => ?_) (fun hx => ?_)
          · replace h := zwp_t h hx
            refine g_aload_n (pc' := 73)  hc rfl rfl rfl rfl ?_
            refine g_aload_n (pc' := 74)  hc rfl rfl rfl rfl ?_
            refine g_aload_n (pc' := 75)  hc rfl rfl rfl rfl ?_
            refine z_virt (as := [.ref 1, .ref 28]) (a := 4) (r := []) hc rfl rfl rfl rfl sh_4 rfl zco_55 rfl rfl rfl ?_
            refine ok_X6_readOperator_4_1_28 (zdp hd rfl) (zwp_mono (zwp_bind h) ?_)
            rintro ⟨r62, o54, o55, o56, o57, o58, o59, o60, o61⟩ h
            refine z_po (pc' := 78) (st' := [.int r62]) (v := (some (.int r62))) (L' := [(1, some 3, fun _ => x20), (1, some 4, fun _ => x17), (1, some 5, fun _ => x18), (1, some 6, fun _ => x19), (4, some 1, fun _ => o61), (4, some 2, fun _ => o55), (4, some 3, fun _ => o56), (4, some 4, fun _ => o54), (4, some 5, fun _ => o57), (5, none, o60), (28, some 2, fun _ => o59), (30, none, o58)]) (K' := []) zco_55 rfl rfl rfl rfl rfl rfl rfl rfl ?_
            replace h := zws h
            exact h
          · replace h := zwp_f h hx
            refine g_aload_n (pc' := 63)  hc rfl rfl rfl rfl ?_
            refine g_aload_n (pc' := 64)  hc rfl rfl rfl rfl ?_
            refine g_aload_n (pc' := 65)  hc rfl rfl rfl rfl ?_
            refine g_iload_n (pc' := 66)  hc rfl rfl rfl ?_
            refine z_virt (as := [.ref 1, .ref 28, .int a3]) (a := 4) (r := []) hc rfl rfl rfl rfl sh_4 rfl zco_51 rfl rfl rfl ?_
            refine ok_X6_readPart_4_1_28 (zdp hd rfl) (zwp_mono (zwp_bind h) ?_)
            rintro ⟨r71, o63, o64, o65, o66, o67, o68, o69, o70⟩ h
            refine z_po (pc' := 69) (st' := [.int r71]) (v := (some (.int r71))) (L' := [(1, some 3, fun _ => x20), (1, some 4, fun _ => x17), (1, some 5, fun _ => x18), (1, some 6, fun _ => x19), (4, some 1, fun _ => o70), (4, some 2, fun _ => o64), (4, some 3, fun _ => o65), (4, some 4, fun _ => o63), (4, some 5, fun _ => o66), (5, none, o69), (28, some 2, fun _ => o68), (30, none, o67)]) (K' := []) zco_51 rfl rfl rfl rfl rfl rfl rfl rfl ?_
            refine g_goto hc rfl ?_
            replace h := zws h
            exact h
  · replace h := zwp_f h hx
    refine g_iconst (pc' := 8) (v := (5 : Int32)) hc rfl zki_5 rfl ?_
    replace h := zws h
    exact g_ireturn hc rfl rfl rfl (fun _ => ⟨rfl, rfl⟩) h
set_option maxHeartbeats 20000000 in
set_option maxRecDepth 4000 in
theorem ok_X4_readLine_3_1_19 {p q : Nat} {I : pI} {J : pJ} {Q : pQ} {d : Nat} (hd : 11 ≤ d) (h : zwp (f_X4_readLine (I 19 12) (I 19 11) (I 19 3) (I 27) (I 25 2) (I 19 1) (I 30) (I 28 2) (I 24) (I 19 9) (I 23) (I 19 7) (I 20) (I 21) (J 19 2) (I 22) (I 19 0) (I 3 1) (I 4 4) (I 4 2) (I 4 3) (I 4 5) (I 5) (I 4 1) (I 2) (I 1 4) (I 1 5) (I 1 2) (I 1 6) (I 1 3)) (fun w => match w with | (r, o0, o1, o2, o3, o4, o5, o6, o7, o8, o9, o10, o11, o12, o13, o14, o15, o16, o17, o18, o19, o20, o21, o22, o23, o24, o25) => Q (.inl (some (.int r))) (zS p q I [(1, some 3, fun _ => o25), (1, some 4, fun _ => o22), (1, some 5, fun _ => o23), (1, some 6, fun _ => o24), (3, some 1, fun _ => o15), (4, some 1, fun _ => o21), (4, some 2, fun _ => o17), (4, some 3, fun _ => o18), (4, some 4, fun _ => o16), (4, some 5, fun _ => o19), (5, none, o20), (19, some 3, fun _ => o2), (19, some 7, fun _ => o10), (19, some 9, fun _ => o8), (19, some 11, fun _ => o1), (19, some 12, fun _ => o0), (20, none, o11), (21, none, o12), (22, none, o14), (23, none, o9), (24, none, o7), (25, some 2, fun _ => o4), (27, none, o3), (28, some 2, fun _ => o6), (30, none, o5)] J [(19, some 2, fun _ => o13)]))) : pm_call M cost zext d 33 [.ref 3, .ref 1, .ref 19] (pm_st 108 (shp p q) I J) Q := by
  obtain ⟨d, rfl⟩ := zd1 hd rfl
  have hc := pm_call_m (M := M) (cost := cost) zext_m d
  refine z_in (L := [(1, some 3, fun _ => (I 1 3)), (1, some 4, fun _ => (I 1 4)), (1, some 5, fun _ => (I 1 5)), (1, some 6, fun _ => (I 1 6)), (3, some 1, fun _ => (I 3 1)), (4, some 1, fun _ => (I 4 1)), (4, some 2, fun _ => (I 4 2)), (4, some 3, fun _ => (I 4 3)), (4, some 4, fun _ => (I 4 4)), (4, some 5, fun _ => (I 4 5)), (5, none, (I 5)), (19, some 3, fun _ => (I 19 3)), (19, some 7, fun _ => (I 19 7)), (19, some 9, fun _ => (I 19 9)), (19, some 11, fun _ => (I 19 11)), (19, some 12, fun _ => (I 19 12)), (20, none, (I 20)), (21, none, (I 21)), (22, none, (I 22)), (23, none, (I 23)), (24, none, (I 24)), (25, some 2, fun _ => (I 25 2)), (27, none, (I 27)), (28, some 2, fun _ => (I 28 2)), (30, none, (I 30))]) (K := [(19, some 2, fun _ => (J 19 2))]) (ls := [some (.ref 3), some (.ref 1), some (.ref 19)]) zmt_33 zco_33 rfl rfl (zid_s (zid_s (zid_s (zid_s (zid_s (zid_s (zid_s (zid_s (zid_s (zid_s (zid_a (zid_s (zid_s (zid_s (zid_s (zid_s (zid_a (zid_a (zid_a (zid_a (zid_a (zid_s (zid_a (zid_s (zid_a zid_n))))))))))))))))))))))))) (zid_s zid_n) ?_
  delta f_X4_readLine at h
  refine g_aload_n (pc' := 1)  hc rfl rfl rfl rfl ?_
  refine g_ldc_t (pc' := 3)  hc rfl rfl rfl ?_
  refine z_virt (as := [.retAddr 3]) (a := 1) (r := []) hc rfl rfl rfl rfl sh_1 rfl zco_90 rfl rfl rfl ?_
  refine ok_X9_isWord_1 (zdp hd rfl) (zlt rfl) (zwp_mono (zwp_bind h) ?_)
  rintro r1 h
  refine z_po (pc' := 6) (st' := [.int r1]) (v := (some (.int r1))) (L' := [(1, some 3, fun _ => (I 1 3)), (1, some 4, fun _ => (I 1 4)), (1, some 5, fun _ => (I 1 5)), (1, some 6, fun _ => (I 1 6)), (3, some 1, fun _ => (I 3 1)), (4, some 1, fun _ => (I 4 1)), (4, some 2, fun _ => (I 4 2)), (4, some 3, fun _ => (I 4 3)), (4, some 4, fun _ => (I 4 4)), (4, some 5, fun _ => (I 4 5)), (5, none, (I 5)), (19, some 3, fun _ => (I 19 3)), (19, some 7, fun _ => (I 19 7)), (19, some 9, fun _ => (I 19 9)), (19, some 11, fun _ => (I 19 11)), (19, some 12, fun _ => (I 19 12)), (20, none, (I 20)), (21, none, (I 21)), (22, none, (I 22)), (23, none, (I 23)), (24, none, (I 24)), (25, some 2, fun _ => (I 25 2)), (27, none, (I 27)), (28, some 2, fun _ => (I 28 2)), (30, none, (I 30))]) (K' := [(19, some 2, fun _ => (J 19 2))]) zco_90 rfl rfl rfl rfl rfl rfl rfl rfl ?_
  refine g_if_eq (pc' := 9) hc rfl rfl (fun hx => ?_) (fun hx => ?_)
  · replace h := zwp_t h hx
    refine g_aload_n (pc' := 16)  hc rfl rfl rfl rfl ?_
    refine g_ldc_t (pc' := 18)  hc rfl rfl rfl ?_
    refine z_virt (as := [.retAddr 4]) (a := 1) (r := []) hc rfl rfl rfl rfl sh_1 rfl zco_90 rfl rfl rfl ?_
    refine ok_X9_isWord_1 (zdp hd rfl) (zlt rfl) (zwp_mono (zwp_bind h) ?_)
    rintro r2 h
    refine z_po (pc' := 21) (st' := [.int r2]) (v := (some (.int r2))) (L' := [(1, some 3, fun _ => (I 1 3)), (1, some 4, fun _ => (I 1 4)), (1, some 5, fun _ => (I 1 5)), (1, some 6, fun _ => (I 1 6)), (3, some 1, fun _ => (I 3 1)), (4, some 1, fun _ => (I 4 1)), (4, some 2, fun _ => (I 4 2)), (4, some 3, fun _ => (I 4 3)), (4, some 4, fun _ => (I 4 4)), (4, some 5, fun _ => (I 4 5)), (5, none, (I 5)), (19, some 3, fun _ => (I 19 3)), (19, some 7, fun _ => (I 19 7)), (19, some 9, fun _ => (I 19 9)), (19, some 11, fun _ => (I 19 11)), (19, some 12, fun _ => (I 19 12)), (20, none, (I 20)), (21, none, (I 21)), (22, none, (I 22)), (23, none, (I 23)), (24, none, (I 24)), (25, some 2, fun _ => (I 25 2)), (27, none, (I 27)), (28, some 2, fun _ => (I 28 2)), (30, none, (I 30))]) (K' := [(19, some 2, fun _ => (J 19 2))]) zco_90 rfl rfl rfl rfl rfl rfl rfl rfl ?_
    refine g_if_eq (pc' := 24) hc rfl rfl (fun hx => ?_) (fun hx => ?_)
    · replace h := zwp_t h hx
      refine g_aload_n (pc' := 32)  hc rfl rfl rfl rfl ?_
      refine g_ldc_t (pc' := 34)  hc rfl rfl rfl ?_
      refine z_virt (as := [.retAddr 5]) (a := 1) (r := []) hc rfl rfl rfl rfl sh_1 rfl zco_90 rfl rfl rfl ?_
      refine ok_X9_isWord_1 (zdp hd rfl) (zlt rfl) (zwp_mono (zwp_bind h) ?_)
      rintro r3 h
      refine z_po (pc' := 37) (st' := [.int r3]) (v := (some (.int r3))) (L' := [(1, some 3, fun _ => (I 1 3)), (1, some 4, fun _ => (I 1 4)), (1, some 5, fun _ => (I 1 5)), (1, some 6, fun _ => (I 1 6)), (3, some 1, fun _ => (I 3 1)), (4, some 1, fun _ => (I 4 1)), (4, some 2, fun _ => (I 4 2)), (4, some 3, fun _ => (I 4 3)), (4, some 4, fun _ => (I 4 4)), (4, some 5, fun _ => (I 4 5)), (5, none, (I 5)), (19, some 3, fun _ => (I 19 3)), (19, some 7, fun _ => (I 19 7)), (19, some 9, fun _ => (I 19 9)), (19, some 11, fun _ => (I 19 11)), (19, some 12, fun _ => (I 19 12)), (20, none, (I 20)), (21, none, (I 21)), (22, none, (I 22)), (23, none, (I 23)), (24, none, (I 24)), (25, some 2, fun _ => (I 25 2)), (27, none, (I 27)), (28, some 2, fun _ => (I 28 2)), (30, none, (I 30))]) (K' := [(19, some 2, fun _ => (J 19 2))]) zco_90 rfl rfl rfl rfl rfl rfl rfl rfl ?_
      refine g_if_eq (pc' := 40) hc rfl rfl (fun hx => ?_) (fun hx => ?_)
      · replace h := zwp_t h hx
        refine g_aload_n (pc' := 47)  hc rfl rfl rfl rfl ?_
        refine g_ldc_t (pc' := 49)  hc rfl rfl rfl ?_
        refine z_virt (as := [.retAddr 6]) (a := 1) (r := []) hc rfl rfl rfl rfl sh_1 rfl zco_90 rfl rfl rfl ?_
        refine ok_X9_isWord_1 (zdp hd rfl) (zlt rfl) (zwp_mono (zwp_bind h) ?_)
        rintro r4 h
        refine z_po (pc' := 52) (st' := [.int r4]) (v := (some (.int r4))) (L' := [(1, some 3, fun _ => (I 1 3)), (1, some 4, fun _ => (I 1 4)), (1, some 5, fun _ => (I 1 5)), (1, some 6, fun _ => (I 1 6)), (3, some 1, fun _ => (I 3 1)), (4, some 1, fun _ => (I 4 1)), (4, some 2, fun _ => (I 4 2)), (4, some 3, fun _ => (I 4 3)), (4, some 4, fun _ => (I 4 4)), (4, some 5, fun _ => (I 4 5)), (5, none, (I 5)), (19, some 3, fun _ => (I 19 3)), (19, some 7, fun _ => (I 19 7)), (19, some 9, fun _ => (I 19 9)), (19, some 11, fun _ => (I 19 11)), (19, some 12, fun _ => (I 19 12)), (20, none, (I 20)), (21, none, (I 21)), (22, none, (I 22)), (23, none, (I 23)), (24, none, (I 24)), (25, some 2, fun _ => (I 25 2)), (27, none, (I 27)), (28, some 2, fun _ => (I 28 2)), (30, none, (I 30))]) (K' := [(19, some 2, fun _ => (J 19 2))]) zco_90 rfl rfl rfl rfl rfl rfl rfl rfl ?_
        refine g_if_eq (pc' := 55) hc rfl rfl (fun hx => ?_) (fun hx => ?_)
        · replace h := zwp_t h hx
          refine g_aload_n (pc' := 63)  hc rfl rfl rfl rfl ?_
          refine g_ldc_t (pc' := 65)  hc rfl rfl rfl ?_
          refine z_virt (as := [.retAddr 7]) (a := 1) (r := []) hc rfl rfl rfl rfl sh_1 rfl zco_90 rfl rfl rfl ?_
          refine ok_X9_isWord_1 (zdp hd rfl) (zlt rfl) (zwp_mono (zwp_bind h) ?_)
          rintro r5 h
          refine z_po (pc' := 68) (st' := [.int r5]) (v := (some (.int r5))) (L' := [(1, some 3, fun _ => (I 1 3)), (1, some 4, fun _ => (I 1 4)), (1, some 5, fun _ => (I 1 5)), (1, some 6, fun _ => (I 1 6)), (3, some 1, fun _ => (I 3 1)), (4, some 1, fun _ => (I 4 1)), (4, some 2, fun _ => (I 4 2)), (4, some 3, fun _ => (I 4 3)), (4, some 4, fun _ => (I 4 4)), (4, some 5, fun _ => (I 4 5)), (5, none, (I 5)), (19, some 3, fun _ => (I 19 3)), (19, some 7, fun _ => (I 19 7)), (19, some 9, fun _ => (I 19 9)), (19, some 11, fun _ => (I 19 11)), (19, some 12, fun _ => (I 19 12)), (20, none, (I 20)), (21, none, (I 21)), (22, none, (I 22)), (23, none, (I 23)), (24, none, (I 24)), (25, some 2, fun _ => (I 25 2)), (27, none, (I 27)), (28, some 2, fun _ => (I 28 2)), (30, none, (I 30))]) (K' := [(19, some 2, fun _ => (J 19 2))]) zco_90 rfl rfl rfl rfl rfl rfl rfl rfl ?_
          refine g_if_eq (pc' := 71) hc rfl rfl (fun hx => ?_) (fun hx => ?_)
          · replace h := zwp_t h hx
            refine g_aload_n (pc' := 78)  hc rfl rfl rfl rfl ?_
            refine g_ldc_t (pc' := 80)  hc rfl rfl rfl ?_
            refine z_virt (as := [.retAddr 8]) (a := 1) (r := []) hc rfl rfl rfl rfl sh_1 rfl zco_90 rfl rfl rfl ?_
            refine ok_X9_isWord_1 (zdp hd rfl) (zlt rfl) (zwp_mono (zwp_bind h) ?_)
            rintro r6 h
            refine z_po (pc' := 83) (st' := [.int r6]) (v := (some (.int r6))) (L' := [(1, some 3, fun _ => (I 1 3)), (1, some 4, fun _ => (I 1 4)), (1, some 5, fun _ => (I 1 5)), (1, some 6, fun _ => (I 1 6)), (3, some 1, fun _ => (I 3 1)), (4, some 1, fun _ => (I 4 1)), (4, some 2, fun _ => (I 4 2)), (4, some 3, fun _ => (I 4 3)), (4, some 4, fun _ => (I 4 4)), (4, some 5, fun _ => (I 4 5)), (5, none, (I 5)), (19, some 3, fun _ => (I 19 3)), (19, some 7, fun _ => (I 19 7)), (19, some 9, fun _ => (I 19 9)), (19, some 11, fun _ => (I 19 11)), (19, some 12, fun _ => (I 19 12)), (20, none, (I 20)), (21, none, (I 21)), (22, none, (I 22)), (23, none, (I 23)), (24, none, (I 24)), (25, some 2, fun _ => (I 25 2)), (27, none, (I 27)), (28, some 2, fun _ => (I 28 2)), (30, none, (I 30))]) (K' := [(19, some 2, fun _ => (J 19 2))]) zco_90 rfl rfl rfl rfl rfl rfl rfl rfl ?_
            refine g_if_eq (pc' := 86) hc rfl rfl (fun hx => ?_) (fun hx => ?_)
            · replace h := zwp_t h hx
              refine g_aload_n (pc' := 101)  hc rfl rfl rfl rfl ?_
              refine g_ldc_t (pc' := 103)  hc rfl rfl rfl ?_
              refine z_virt (as := [.retAddr 17]) (a := 1) (r := []) hc rfl rfl rfl rfl sh_1 rfl zco_90 rfl rfl rfl ?_
              refine ok_X9_isWord_1 (zdp hd rfl) (zlt rfl) (zwp_mono (zwp_bind h) ?_)
              rintro r7 h
              refine z_po (pc' := 106) (st' := [.int r7]) (v := (some (.int r7))) (L' := [(1, some 3, fun _ => (I 1 3)), (1, some 4, fun _ => (I 1 4)), (1, some 5, fun _ => (I 1 5)), (1, some 6, fun _ => (I 1 6)), (3, some 1, fun _ => (I 3 1)), (4, some 1, fun _ => (I 4 1)), (4, some 2, fun _ => (I 4 2)), (4, some 3, fun _ => (I 4 3)), (4, some 4, fun _ => (I 4 4)), (4, some 5, fun _ => (I 4 5)), (5, none, (I 5)), (19, some 3, fun _ => (I 19 3)), (19, some 7, fun _ => (I 19 7)), (19, some 9, fun _ => (I 19 9)), (19, some 11, fun _ => (I 19 11)), (19, some 12, fun _ => (I 19 12)), (20, none, (I 20)), (21, none, (I 21)), (22, none, (I 22)), (23, none, (I 23)), (24, none, (I 24)), (25, some 2, fun _ => (I 25 2)), (27, none, (I 27)), (28, some 2, fun _ => (I 28 2)), (30, none, (I 30))]) (K' := [(19, some 2, fun _ => (J 19 2))]) zco_90 rfl rfl rfl rfl rfl rfl rfl rfl ?_
              refine g_if_eq (pc' := 109) hc rfl rfl (fun hx => ?_) (fun hx => ?_)
              · replace h := zwp_t h hx
                refine g_iconst (pc' := 124) (v := (1 : Int32)) hc rfl zki_1 rfl ?_
                replace h := zws h
                exact g_ireturn hc rfl rfl rfl (fun _ => ⟨rfl, rfl⟩) h
              · replace h := zwp_f h hx
                refine g_aload_n (pc' := 110)  hc rfl rfl rfl rfl ?_
                refine z_getR (pc' := 113)  hc rfl rfl rfl sh_3 rfl rfl ?_
                refine g_aload_n (pc' := 114)  hc rfl rfl rfl rfl ?_
                refine g_aload_n (pc' := 115)  hc rfl rfl rfl rfl ?_
                refine z_getR (pc' := 118)  hc rfl rfl rfl sh_19 rfl rfl ?_
                refine g_iconst (pc' := 119) (v := (1 : Int32)) hc rfl zki_1 rfl ?_
                refine z_virt (as := [.ref 1, .ref 28, .int (1 : Int32)]) (a := 4) (r := []) hc rfl rfl rfl rfl sh_4 rfl zco_48 rfl rfl rfl ?_
                refine ok_X6_read_4_1_28 (zdp hd rfl) (zwp_mono (zwp_bind h) ?_)
                rintro ⟨r20, o8, o9, o10, o11, o12, o13, o14, o15, o16, o17, o18, o19⟩ h
                refine z_po (pc' := 122) (st' := [.int r20]) (v := (some (.int r20))) (L' := [(1, some 3, fun _ => o17), (1, some 4, fun _ => o14), (1, some 5, fun _ => o15), (1, some 6, fun _ => o16), (3, some 1, fun _ => (I 3 1)), (4, some 1, fun _ => o19), (4, some 2, fun _ => o9), (4, some 3, fun _ => o10), (4, some 4, fun _ => o8), (4, some 5, fun _ => o11), (5, none, o18), (19, some 3, fun _ => (I 19 3)), (19, some 7, fun _ => (I 19 7)), (19, some 9, fun _ => (I 19 9)), (19, some 11, fun _ => (I 19 11)), (19, some 12, fun _ => (I 19 12)), (20, none, (I 20)), (21, none, (I 21)), (22, none, (I 22)), (23, none, (I 23)), (24, none, (I 24)), (25, some 2, fun _ => (I 25 2)), (27, none, (I 27)), (28, some 2, fun _ => o13), (30, none, o12)]) (K' := [(19, some 2, fun _ => (J 19 2))]) zco_48 rfl rfl rfl rfl rfl rfl rfl rfl ?_
                replace h := zws h
                exact g_ireturn hc rfl rfl rfl (fun _ => ⟨rfl, rfl⟩) h
            · replace h := zwp_f h hx
              refine g_aload_n (pc' := 87)  hc rfl rfl rfl rfl ?_
              refine z_getR (pc' := 90)  hc rfl rfl rfl sh_3 rfl rfl ?_
              refine g_aload_n (pc' := 91)  hc rfl rfl rfl rfl ?_
              refine g_aload_n (pc' := 92)  hc rfl rfl rfl rfl ?_
              refine z_getR (pc' := 95)  hc rfl rfl rfl sh_19 rfl rfl ?_
              refine g_iconst (pc' := 96) (v := (0 : Int32)) hc rfl zki_0 rfl ?_
              refine z_virt (as := [.ref 1, .ref 25, .int (0 : Int32)]) (a := 4) (r := []) hc rfl rfl rfl rfl sh_4 rfl zco_48 rfl rfl rfl ?_
              refine ok_X6_read_4_1_25 (zdp hd rfl) (zwp_mono (zwp_bind h) ?_)
              rintro ⟨r33, o21, o22, o23, o24, o25, o26, o27, o28, o29, o30, o31, o32⟩ h
              refine z_po (pc' := 99) (st' := [.int r33]) (v := (some (.int r33))) (L' := [(1, some 3, fun _ => o30), (1, some 4, fun _ => o27), (1, some 5, fun _ => o28), (1, some 6, fun _ => o29), (3, some 1, fun _ => (I 3 1)), (4, some 1, fun _ => o32), (4, some 2, fun _ => o22), (4, some 3, fun _ => o23), (4, some 4, fun _ => o21), (4, some 5, fun _ => o24), (5, none, o31), (19, some 3, fun _ => (I 19 3)), (19, some 7, fun _ => (I 19 7)), (19, some 9, fun _ => (I 19 9)), (19, some 11, fun _ => (I 19 11)), (19, some 12, fun _ => (I 19 12)), (20, none, (I 20)), (21, none, (I 21)), (22, none, (I 22)), (23, none, (I 23)), (24, none, (I 24)), (25, some 2, fun _ => o26), (27, none, o25), (28, some 2, fun _ => (I 28 2)), (30, none, (I 30))]) (K' := [(19, some 2, fun _ => (J 19 2))]) zco_48 rfl rfl rfl rfl rfl rfl rfl rfl ?_
              replace h := zws h
              exact g_ireturn hc rfl rfl rfl (fun _ => ⟨rfl, rfl⟩) h
          · replace h := zwp_f h hx
            refine g_aload_n (pc' := 72)  hc rfl rfl rfl rfl ?_
            refine g_aload_n (pc' := 73)  hc rfl rfl rfl rfl ?_
            refine z_stat (as := [.ref 1, .ref 19]) (r := []) hc rfl rfl rfl rfl zco_40 rfl rfl rfl ?_
            refine ok_X4_readDull_1_19 (zdp hd rfl) (zwp_mono (zwp_bind h) ?_)
            rintro ⟨r40, o34, o35, o36, o37, o38, o39⟩ h
            refine z_po (pc' := 76) (st' := [.int r40]) (v := (some (.int r40))) (L' := [(1, some 3, fun _ => o39), (1, some 4, fun _ => o36), (1, some 5, fun _ => o37), (1, some 6, fun _ => o38), (3, some 1, fun _ => (I 3 1)), (4, some 1, fun _ => (I 4 1)), (4, some 2, fun _ => (I 4 2)), (4, some 3, fun _ => (I 4 3)), (4, some 4, fun _ => (I 4 4)), (4, some 5, fun _ => (I 4 5)), (5, none, (I 5)), (19, some 3, fun _ => (I 19 3)), (19, some 7, fun _ => (I 19 7)), (19, some 9, fun _ => (I 19 9)), (19, some 11, fun _ => o35), (19, some 12, fun _ => o34), (20, none, (I 20)), (21, none, (I 21)), (22, none, (I 22)), (23, none, (I 23)), (24, none, (I 24)), (25, some 2, fun _ => (I 25 2)), (27, none, (I 27)), (28, some 2, fun _ => (I 28 2)), (30, none, (I 30))]) (K' := [(19, some 2, fun _ => (J 19 2))]) zco_40 rfl rfl rfl rfl rfl rfl rfl rfl ?_
            replace h := zws h
            exact g_ireturn hc rfl rfl rfl (fun _ => ⟨rfl, rfl⟩) h
        · replace h := zwp_f h hx
          refine g_aload_n (pc' := 56)  hc rfl rfl rfl rfl ?_
          refine g_aload_n (pc' := 57)  hc rfl rfl rfl rfl ?_
          refine g_aload_n (pc' := 58)  hc rfl rfl rfl rfl ?_
          refine z_virt (as := [.ref 1, .ref 19]) (a := 3) (r := []) hc rfl rfl rfl rfl sh_3 rfl zco_38 rfl rfl rfl ?_
          refine ok_X4_readLight_3_1_19 (zdp hd rfl) (zwp_mono (zwp_bind h) ?_)
          rintro ⟨r48, o41, o42, o43, o44, o45, o46, o47⟩ h
          refine z_po (pc' := 61) (st' := [.int r48]) (v := (some (.int r48))) (L' := [(1, some 3, fun _ => o47), (1, some 4, fun _ => o44), (1, some 5, fun _ => o45), (1, some 6, fun _ => o46), (3, some 1, fun _ => o43), (4, some 1, fun _ => (I 4 1)), (4, some 2, fun _ => (I 4 2)), (4, some 3, fun _ => (I 4 3)), (4, some 4, fun _ => (I 4 4)), (4, some 5, fun _ => (I 4 5)), (5, none, (I 5)), (19, some 3, fun _ => (I 19 3)), (19, some 7, fun _ => (I 19 7)), (19, some 9, fun _ => o42), (19, some 11, fun _ => (I 19 11)), (19, some 12, fun _ => (I 19 12)), (20, none, (I 20)), (21, none, (I 21)), (22, none, (I 22)), (23, none, (I 23)), (24, none, o41), (25, some 2, fun _ => (I 25 2)), (27, none, (I 27)), (28, some 2, fun _ => (I 28 2)), (30, none, (I 30))]) (K' := [(19, some 2, fun _ => (J 19 2))]) zco_38 rfl rfl rfl rfl rfl rfl rfl rfl ?_
          replace h := zws h
          exact g_ireturn hc rfl rfl rfl (fun _ => ⟨rfl, rfl⟩) h
      · replace h := zwp_f h hx
        refine g_aload_n (pc' := 41)  hc rfl rfl rfl rfl ?_
        refine g_aload_n (pc' := 42)  hc rfl rfl rfl rfl ?_
        refine z_stat (as := [.ref 1, .ref 19]) (r := []) hc rfl rfl rfl rfl zco_37 rfl rfl rfl ?_
        refine ok_X4_readSeat_1_19 (zdp hd rfl) (zwp_mono (zwp_bind h) ?_)
        rintro ⟨r55, o49, o50, o51, o52, o53, o54⟩ h
        refine z_po (pc' := 45) (st' := [.int r55]) (v := (some (.int r55))) (L' := [(1, some 3, fun _ => o54), (1, some 4, fun _ => o51), (1, some 5, fun _ => o52), (1, some 6, fun _ => o53), (3, some 1, fun _ => (I 3 1)), (4, some 1, fun _ => (I 4 1)), (4, some 2, fun _ => (I 4 2)), (4, some 3, fun _ => (I 4 3)), (4, some 4, fun _ => (I 4 4)), (4, some 5, fun _ => (I 4 5)), (5, none, (I 5)), (19, some 3, fun _ => (I 19 3)), (19, some 7, fun _ => o50), (19, some 9, fun _ => (I 19 9)), (19, some 11, fun _ => (I 19 11)), (19, some 12, fun _ => (I 19 12)), (20, none, (I 20)), (21, none, (I 21)), (22, none, (I 22)), (23, none, o49), (24, none, (I 24)), (25, some 2, fun _ => (I 25 2)), (27, none, (I 27)), (28, some 2, fun _ => (I 28 2)), (30, none, (I 30))]) (K' := [(19, some 2, fun _ => (J 19 2))]) zco_37 rfl rfl rfl rfl rfl rfl rfl rfl ?_
        replace h := zws h
        exact g_ireturn hc rfl rfl rfl (fun _ => ⟨rfl, rfl⟩) h
    · replace h := zwp_f h hx
      refine g_aload_n (pc' := 25)  hc rfl rfl rfl rfl ?_
      refine g_aload_n (pc' := 26)  hc rfl rfl rfl rfl ?_
      refine g_aload_n (pc' := 27)  hc rfl rfl rfl rfl ?_
      refine z_virt (as := [.ref 1, .ref 19]) (a := 3) (r := []) hc rfl rfl rfl rfl sh_3 rfl zco_36 rfl rfl rfl ?_
      refine ok_X4_readFigure_3_1_19 (zdp hd rfl) (zwp_mono (zwp_bind h) ?_)
      rintro ⟨r65, o56, o57, o58, o59, o60, o61, o62, o63, o64⟩ h
      refine z_po (pc' := 30) (st' := [.int r65]) (v := (some (.int r65))) (L' := [(1, some 3, fun _ => o64), (1, some 4, fun _ => o61), (1, some 5, fun _ => o62), (1, some 6, fun _ => o63), (3, some 1, fun _ => o60), (4, some 1, fun _ => (I 4 1)), (4, some 2, fun _ => (I 4 2)), (4, some 3, fun _ => (I 4 3)), (4, some 4, fun _ => (I 4 4)), (4, some 5, fun _ => (I 4 5)), (5, none, (I 5)), (19, some 3, fun _ => o56), (19, some 7, fun _ => (I 19 7)), (19, some 9, fun _ => (I 19 9)), (19, some 11, fun _ => (I 19 11)), (19, some 12, fun _ => (I 19 12)), (20, none, o57), (21, none, o58), (22, none, o59), (23, none, (I 23)), (24, none, (I 24)), (25, some 2, fun _ => (I 25 2)), (27, none, (I 27)), (28, some 2, fun _ => (I 28 2)), (30, none, (I 30))]) (K' := [(19, some 2, fun _ => (J 19 2))]) zco_36 rfl rfl rfl rfl rfl rfl rfl rfl ?_
      replace h := zws h
      exact g_ireturn hc rfl rfl rfl (fun _ => ⟨rfl, rfl⟩) h
  · replace h := zwp_f h hx
    refine g_aload_n (pc' := 10)  hc rfl rfl rfl rfl ?_
    refine g_aload_n (pc' := 11)  hc rfl rfl rfl rfl ?_
    refine z_stat (as := [.ref 1, .ref 19]) (r := []) hc rfl rfl rfl rfl zco_35 rfl rfl rfl ?_
    refine ok_X4_readWall_1_19 (zdp hd rfl) (zwp_mono (zwp_bind h) ?_)
    rintro ⟨r71, o66, o67, o68, o69, o70⟩ h
    refine z_po (pc' := 14) (st' := [.int r71]) (v := (some (.int r71))) (L' := [(1, some 3, fun _ => o70), (1, some 4, fun _ => o67), (1, some 5, fun _ => o68), (1, some 6, fun _ => o69), (3, some 1, fun _ => (I 3 1)), (4, some 1, fun _ => (I 4 1)), (4, some 2, fun _ => (I 4 2)), (4, some 3, fun _ => (I 4 3)), (4, some 4, fun _ => (I 4 4)), (4, some 5, fun _ => (I 4 5)), (5, none, (I 5)), (19, some 3, fun _ => (I 19 3)), (19, some 7, fun _ => (I 19 7)), (19, some 9, fun _ => (I 19 9)), (19, some 11, fun _ => (I 19 11)), (19, some 12, fun _ => (I 19 12)), (20, none, (I 20)), (21, none, (I 21)), (22, none, (I 22)), (23, none, (I 23)), (24, none, (I 24)), (25, some 2, fun _ => (I 25 2)), (27, none, (I 27)), (28, some 2, fun _ => (I 28 2)), (30, none, (I 30))]) (K' := [(19, some 2, fun _ => o66)]) zco_35 rfl rfl rfl rfl rfl rfl rfl rfl ?_
    replace h := zws h
    exact g_ireturn hc rfl rfl rfl (fun _ => ⟨rfl, rfl⟩) h
set_option maxHeartbeats 20000000 in
set_option maxRecDepth 4000 in
theorem ok_X4_read_3_1_19 {p q : Nat} {I : pI} {J : pJ} {a2 : Int32} {Q : pQ} {d : Nat} (hd : 12 ≤ d) (h : zwp (f_X4_read a2 (I 19 12) (I 19 11) (I 19 3) (I 27) (I 25 2) (I 19 1) (I 30) (I 28 2) (I 24) (I 19 9) (I 23) (I 19 7) (I 20) (I 21) (J 19 2) (I 22) (I 19 0) (I 3 1) (I 4 4) (I 4 2) (I 4 3) (I 4 5) (I 5) (I 4 1) (I 2) (I 1 4) (I 1 5) (I 1 2) (I 1 6) (I 1 3)) (fun w => match w with | (r, o0, o1, o2, o3, o4, o5, o6, o7, o8, o9, o10, o11, o12, o13, o14, o15, o16, o17, o18, o19, o20, o21, o22, o23, o24, o25, o26, o27, o28) => Q (.inl (some (.int r))) (zS p q I [(1, some 2, fun _ => o26), (1, some 3, fun _ => o28), (1, some 4, fun _ => o24), (1, some 5, fun _ => o25), (1, some 6, fun _ => o27), (3, some 1, fun _ => o17), (4, some 1, fun _ => o23), (4, some 2, fun _ => o19), (4, some 3, fun _ => o20), (4, some 4, fun _ => o18), (4, some 5, fun _ => o21), (5, none, o22), (19, some 0, fun _ => o16), (19, some 1, fun _ => o5), (19, some 3, fun _ => o2), (19, some 7, fun _ => o11), (19, some 9, fun _ => o9), (19, some 11, fun _ => o1), (19, some 12, fun _ => o0), (20, none, o12), (21, none, o13), (22, none, o15), (23, none, o10), (24, none, o8), (25, some 2, fun _ => o4), (27, none, o3), (28, some 2, fun _ => o7), (30, none, o6)] J [(19, some 2, fun _ => o14)]))) : pm_call M cost zext d 30 [.ref 3, .ref 1, .int a2, .ref 19] (pm_st 108 (shp p q) I J) Q := by
  obtain ⟨d, rfl⟩ := zd1 hd rfl
  have hc := pm_call_m (M := M) (cost := cost) zext_m d
  refine z_in (L := [(1, some 2, fun _ => (I 1 2)), (1, some 3, fun _ => (I 1 3)), (1, some 4, fun _ => (I 1 4)), (1, some 5, fun _ => (I 1 5)), (1, some 6, fun _ => (I 1 6)), (3, some 1, fun _ => (I 3 1)), (4, some 1, fun _ => (I 4 1)), (4, some 2, fun _ => (I 4 2)), (4, some 3, fun _ => (I 4 3)), (4, some 4, fun _ => (I 4 4)), (4, some 5, fun _ => (I 4 5)), (5, none, (I 5)), (19, some 0, fun _ => (I 19 0)), (19, some 1, fun _ => (I 19 1)), (19, some 3, fun _ => (I 19 3)), (19, some 7, fun _ => (I 19 7)), (19, some 9, fun _ => (I 19 9)), (19, some 11, fun _ => (I 19 11)), (19, some 12, fun _ => (I 19 12)), (20, none, (I 20)), (21, none, (I 21)), (22, none, (I 22)), (23, none, (I 23)), (24, none, (I 24)), (25, some 2, fun _ => (I 25 2)), (27, none, (I 27)), (28, some 2, fun _ => (I 28 2)), (30, none, (I 30))]) (K := [(19, some 2, fun _ => (J 19 2))]) (ls := [some (.ref 3), some (.ref 1), some (.int a2), some (.ref 19), none, none]) zmt_30 zco_30 rfl rfl (zid_s (zid_s (zid_s (zid_s (zid_s (zid_s (zid_s (zid_s (zid_s (zid_s (zid_s (zid_a (zid_s (zid_s (zid_s (zid_s (zid_s (zid_s (zid_s (zid_a (zid_a (zid_a (zid_a (zid_a (zid_s (zid_a (zid_s (zid_a zid_n)))))))))))))))))))))))))))) (zid_s zid_n) ?_
  delta f_X4_read at h
  refine g_aload_n (pc' := 1)  hc rfl rfl rfl rfl ?_
  refine z_virt (as := []) (a := 19) (r := []) hc rfl rfl rfl rfl sh_19 rfl zco_20 rfl rfl rfl ?_
  refine ok_X3_clear_19 (zdp hd rfl) (zwp_mono (zwp_bind h) ?_)
  rintro ⟨o1, o2, o3, o4, o5, o6, o7, o8, o9, o10⟩ h
  refine z_po (pc' := 4) (st' := []) (v := none) (L' := [(1, some 2, fun _ => (I 1 2)), (1, some 3, fun _ => (I 1 3)), (1, some 4, fun _ => (I 1 4)), (1, some 5, fun _ => (I 1 5)), (1, some 6, fun _ => (I 1 6)), (3, some 1, fun _ => (I 3 1)), (4, some 1, fun _ => (I 4 1)), (4, some 2, fun _ => (I 4 2)), (4, some 3, fun _ => (I 4 3)), (4, some 4, fun _ => (I 4 4)), (4, some 5, fun _ => (I 4 5)), (5, none, (I 5)), (19, some 0, fun _ => o10), (19, some 1, fun _ => o5), (19, some 3, fun _ => o3), (19, some 7, fun _ => o8), (19, some 9, fun _ => o7), (19, some 11, fun _ => o2), (19, some 12, fun _ => o1), (20, none, (I 20)), (21, none, (I 21)), (22, none, (I 22)), (23, none, (I 23)), (24, none, (I 24)), (25, some 2, fun _ => o4), (27, none, (I 27)), (28, some 2, fun _ => o6), (30, none, (I 30))]) (K' := [(19, some 2, fun _ => o9)]) zco_20 rfl rfl rfl rfl rfl rfl rfl rfl ?_
  refine g_aload_n (pc' := 5)  hc rfl rfl rfl rfl ?_
  refine g_iload_n (pc' := 6)  hc rfl rfl rfl ?_
  refine z_virt (as := [.int a2]) (a := 1) (r := []) hc rfl rfl rfl rfl sh_1 rfl zco_82 rfl rfl rfl ?_
  refine ok_X9_begin_1 (zdp hd rfl) (zwp_mono (zwp_bind h) ?_)
  rintro ⟨o11, o12, o13, o14, o15⟩ h
  refine z_po (pc' := 9) (st' := []) (v := none) (L' := [(1, some 2, fun _ => o13), (1, some 3, fun _ => o15), (1, some 4, fun _ => o11), (1, some 5, fun _ => o12), (1, some 6, fun _ => o14), (3, some 1, fun _ => (I 3 1)), (4, some 1, fun _ => (I 4 1)), (4, some 2, fun _ => (I 4 2)), (4, some 3, fun _ => (I 4 3)), (4, some 4, fun _ => (I 4 4)), (4, some 5, fun _ => (I 4 5)), (5, none, (I 5)), (19, some 0, fun _ => o10), (19, some 1, fun _ => o5), (19, some 3, fun _ => o3), (19, some 7, fun _ => o8), (19, some 9, fun _ => o7), (19, some 11, fun _ => o2), (19, some 12, fun _ => o1), (20, none, (I 20)), (21, none, (I 21)), (22, none, (I 22)), (23, none, (I 23)), (24, none, (I 24)), (25, some 2, fun _ => o4), (27, none, (I 27)), (28, some 2, fun _ => o6), (30, none, (I 30))]) (K' := [(19, some 2, fun _ => o9)]) zco_82 rfl rfl rfl rfl rfl rfl rfl rfl ?_
  refine g_aload_n (pc' := 10)  hc rfl rfl rfl rfl ?_
  refine g_ldc_t (pc' := 12)  hc rfl rfl rfl ?_
  refine z_virt (as := [.retAddr 2]) (a := 1) (r := []) hc rfl rfl rfl rfl sh_1 rfl zco_90 rfl rfl rfl ?_
  refine ok_X9_isWord_1 (zdp hd rfl) (zlt rfl) (zwp_mono (zwp_bind h) ?_)
  rintro r16 h
  refine z_po (pc' := 15) (st' := [.int r16]) (v := (some (.int r16))) (L' := [(1, some 2, fun _ => o13), (1, some 3, fun _ => o15), (1, some 4, fun _ => o11), (1, some 5, fun _ => o12), (1, some 6, fun _ => o14), (3, some 1, fun _ => (I 3 1)), (4, some 1, fun _ => (I 4 1)), (4, some 2, fun _ => (I 4 2)), (4, some 3, fun _ => (I 4 3)), (4, some 4, fun _ => (I 4 4)), (4, some 5, fun _ => (I 4 5)), (5, none, (I 5)), (19, some 0, fun _ => o10), (19, some 1, fun _ => o5), (19, some 3, fun _ => o3), (19, some 7, fun _ => o8), (19, some 9, fun _ => o7), (19, some 11, fun _ => o2), (19, some 12, fun _ => o1), (20, none, (I 20)), (21, none, (I 21)), (22, none, (I 22)), (23, none, (I 23)), (24, none, (I 24)), (25, some 2, fun _ => o4), (27, none, (I 27)), (28, some 2, fun _ => o6), (30, none, (I 30))]) (K' := [(19, some 2, fun _ => o9)]) zco_90 rfl rfl rfl rfl rfl rfl rfl rfl ?_
  refine zjn (G := (fun (g : Int32 × Int32 × Int32 × Int32 × Int32 × Int32 × Int32) => match g with | (j17, j18, j19, j20, j21, j22, j23) => pm_ev C_X4_read (d + 1) (pm_call M cost zext d) cost (false, false) 108 0 0 Q 28 [some (.ref 3), some (.ref 1), some (.int a2), some (.ref 19), none, none] [.int j17] 0 0 (zS p q I [(1, some 2, fun _ => o13), (1, some 3, fun _ => j23), (1, some 4, fun _ => j20), (1, some 5, fun _ => j21), (1, some 6, fun _ => j22), (3, some 1, fun _ => (I 3 1)), (4, some 1, fun _ => (I 4 1)), (4, some 2, fun _ => (I 4 2)), (4, some 3, fun _ => (I 4 3)), (4, some 4, fun _ => (I 4 4)), (4, some 5, fun _ => (I 4 5)), (5, none, (I 5)), (19, some 0, fun _ => j19), (19, some 1, fun _ => j18), (19, some 3, fun _ => o3), (19, some 7, fun _ => o8), (19, some 9, fun _ => o7), (19, some 11, fun _ => o2), (19, some 12, fun _ => o1), (20, none, (I 20)), (21, none, (I 21)), (22, none, (I 22)), (23, none, (I 23)), (24, none, (I 24)), (25, some 2, fun _ => o4), (27, none, (I 27)), (28, some 2, fun _ => o6), (30, none, (I 30))] J [(19, some 2, fun _ => o9)]))) (zwp_bind h) ?_ (fun h => ?_)
  · rintro ⟨j17, j18, j19, j20, j21, j22, j23⟩ h
    refine g_istore (pc' := 30) (ls1 := [some (.ref 3), some (.ref 1), some (.int a2), some (.ref 19), some (.int j17), none]) hc rfl (zlt rfl) rfl rfl ?_
    refine g_iconst (pc' := 31) (v := (0 : Int32)) hc rfl zki_0 rfl ?_
    refine g_istore (pc' := 33) (ls1 := [some (.ref 3), some (.ref 1), some (.int a2), some (.ref 19), some (.int j17), some (.int (0 : Int32))]) hc rfl (zlt rfl) rfl rfl ?_
    refine zjn (G := (fun (g : Int32 × Int32 × Int32 × Int32 × (Nat → Int32) × Int32 × (Nat → Int32) × Int32 × (Nat → Int32) × Int32 × (Nat → Int32) × Int32 × (Nat → Int32) × (Nat → Int32) × Int64 × (Nat → Int32) × Int32 × Int32 × Int32 × Int32 × Int32 × (Nat → Int32) × Int32 × Int32 × Int32 × Int32 × Int32) => match g with | (y52, y54, y55, y56, y57, y58, y59, y60, y61, y62, y63, y64, y65, y66, y67, y68, y69, y70, y71, y72, y73, y74, y75, y76, y77, y78, y79) => ∀ z53 : Option Value, znl z53 = true → pm_ev C_X4_read (d + 1) (pm_call M cost zext d) cost (false, false) 108 0 0 Q 78 [some (.ref 3), some (.ref 1), some (.int a2), some (.ref 19), some (.int y52), z53] [] 0 0 (zS p q I [(1, some 2, fun _ => o13), (1, some 3, fun _ => y79), (1, some 4, fun _ => y76), (1, some 5, fun _ => y77), (1, some 6, fun _ => y78), (3, some 1, fun _ => y69), (4, some 1, fun _ => y75), (4, some 2, fun _ => y71), (4, some 3, fun _ => y72), (4, some 4, fun _ => y70), (4, some 5, fun _ => y73), (5, none, y74), (19, some 0, fun _ => j19), (19, some 1, fun _ => j18), (19, some 3, fun _ => y56), (19, some 7, fun _ => y64), (19, some 9, fun _ => y62), (19, some 11, fun _ => y55), (19, some 12, fun _ => y54), (20, none, y65), (21, none, y66), (22, none, y68), (23, none, y63), (24, none, y61), (25, some 2, fun _ => y58), (27, none, y57), (28, some 2, fun _ => y60), (30, none, y59)] J [(19, some 2, fun _ => y67)]))) (zwp_bind h) ?_ (fun h => ?_)
    · rintro ⟨y52, y54, y55, y56, y57, y58, y59, y60, y61, y62, y63, y64, y65, y66, y67, y68, y69, y70, y71, y72, y73, y74, y75, y76, y77, y78, y79⟩ h z53 hz53
      refine g_iload (pc' := 80)  hc rfl rfl rfl ?_
      replace h := zws h
      exact g_ireturn hc rfl rfl rfl (fun _ => ⟨rfl, rfl⟩) h
    refine zitr_ev (G := (fun (g : Int32 × Int32 × Int32 × Int32 × Int32 × (Nat → Int32) × Int32 × (Nat → Int32) × Int32 × (Nat → Int32) × Int32 × (Nat → Int32) × Int32 × (Nat → Int32) × (Nat → Int32) × Int64 × (Nat → Int32) × Int32 × Int32 × Int32 × Int32 × Int32 × (Nat → Int32) × Int32 × Int32 × Int32 × Int32 × Int32) => match g with | (x24, x25, x26, x27, x28, x29, x30, x31, x32, x33, x34, x35, x36, x37, x38, x39, x40, x41, x42, x43, x44, x45, x46, x47, x48, x49, x50, x51) => pm_ev C_X4_read (d + 1) (pm_call M cost zext d) cost (false, false) 108 0 0 Q 33 [some (.ref 3), some (.ref 1), some (.int a2), some (.ref 19), some (.int x24), some (.int x25)] [] 0 0 (zS p q I [(1, some 2, fun _ => o13), (1, some 3, fun _ => x51), (1, some 4, fun _ => x48), (1, some 5, fun _ => x49), (1, some 6, fun _ => x50), (3, some 1, fun _ => x41), (4, some 1, fun _ => x47), (4, some 2, fun _ => x43), (4, some 3, fun _ => x44), (4, some 4, fun _ => x42), (4, some 5, fun _ => x45), (5, none, x46), (19, some 0, fun _ => j19), (19, some 1, fun _ => j18), (19, some 3, fun _ => x28), (19, some 7, fun _ => x36), (19, some 9, fun _ => x34), (19, some 11, fun _ => x27), (19, some 12, fun _ => x26), (20, none, x37), (21, none, x38), (22, none, x40), (23, none, x35), (24, none, x33), (25, some 2, fun _ => x30), (27, none, x29), (28, some 2, fun _ => x32), (30, none, x31)] J [(19, some 2, fun _ => x39)]))) ?_ zFU (j17, (0 : Int32), o1, o2, o3, (I 27), o4, (I 30), o6, (I 24), o7, (I 23), o8, (I 20), (I 21), o9, (I 22), (I 3 1), (I 4 4), (I 4 2), (I 4 3), (I 4 5), (I 5), (I 4 1), j20, j21, j22, j23) h
    rintro ⟨x24, x25, x26, x27, x28, x29, x30, x31, x32, x33, x34, x35, x36, x37, x38, x39, x40, x41, x42, x43, x44, x45, x46, x47, x48, x49, x50, x51⟩ h
    refine g_iload (pc' := 35)  hc rfl rfl rfl ?_
    refine g_sipush (pc' := 38) (v := (700 : Int32)) hc rfl zks_700 rfl ?_
    refine g_icmp_ge (pc' := 41) hc rfl rfl (fun hx => ?_) (fun hx => ?_)
    · replace h := zwp_t h hx
      replace h := zwp_r h
      exact h (some (.int x25)) rfl
    · replace h := zwp_f h hx
      refine g_iload (pc' := 43)  hc rfl rfl rfl ?_
      refine g_if_ne (pc' := 46) hc rfl rfl (fun hx => ?_) (fun hx => ?_)
      · replace h := zwp_f h hx
        replace h := zwp_r h
        exact h (some (.int x25)) rfl
      · replace h := zwp_t h hx
        refine g_aload_n (pc' := 47)  hc rfl rfl rfl rfl ?_
        refine z_getI (pc' := 50) (v := x49) hc rfl rfl rfl sh_1 rfl rfl rfl ?_
        refine g_if_eq (pc' := 53) hc rfl rfl (fun hx => ?_) (fun hx => ?_)
        · replace h := zwp_t h hx
          replace h := zwp_r h
          exact h (some (.int x25)) rfl
        · replace h := zwp_f h hx
          refine g_aload_n (pc' := 54)  hc rfl rfl rfl rfl ?_
          refine g_aload_n (pc' := 55)  hc rfl rfl rfl rfl ?_
          refine g_aload_n (pc' := 56)  hc rfl rfl rfl rfl ?_
          refine z_virt (as := [.ref 1, .ref 19]) (a := 3) (r := []) hc rfl rfl rfl rfl sh_3 rfl zco_33 rfl rfl rfl ?_
          refine ok_X4_readLine_3_1_19 (zdp hd rfl) (zwp_mono (zwp_bind h) ?_)
          rintro ⟨r106, o80, o81, o82, o83, o84, o85, o86, o87, o88, o89, o90, o91, o92, o93, o94, o95, o96, o97, o98, o99, o100, o101, o102, o103, o104, o105⟩ h
          refine z_po (pc' := 59) (st' := [.int r106]) (v := (some (.int r106))) (L' := [(1, some 2, fun _ => o13), (1, some 3, fun _ => o105), (1, some 4, fun _ => o102), (1, some 5, fun _ => o103), (1, some 6, fun _ => o104), (3, some 1, fun _ => o95), (4, some 1, fun _ => o101), (4, some 2, fun _ => o97), (4, some 3, fun _ => o98), (4, some 4, fun _ => o96), (4, some 5, fun _ => o99), (5, none, o100), (19, some 0, fun _ => j19), (19, some 1, fun _ => j18), (19, some 3, fun _ => o82), (19, some 7, fun _ => o90), (19, some 9, fun _ => o88), (19, some 11, fun _ => o81), (19, some 12, fun _ => o80), (20, none, o91), (21, none, o92), (22, none, o94), (23, none, o89), (24, none, o87), (25, some 2, fun _ => o84), (27, none, o83), (28, some 2, fun _ => o86), (30, none, o85)]) (K' := [(19, some 2, fun _ => o93)]) zco_33 rfl rfl rfl rfl rfl rfl rfl rfl ?_
          refine g_istore (pc' := 61) (ls1 := [some (.ref 3), some (.ref 1), some (.int a2), some (.ref 19), some (.int r106), some (.int x25)]) hc rfl (zlt rfl) rfl rfl ?_
          refine g_iload (pc' := 63)  hc rfl rfl rfl ?_
          refine g_if_ne (pc' := 66) hc rfl rfl (fun hx => ?_) (fun hx => ?_)
          · replace h := zwp_f h hx
            refine g_iinc (pc' := 75) (ls1 := [some (.ref 3), some (.ref 1), some (.int a2), some (.ref 19), some (.int r106), some (.int (x25 + (1 : Int32)))]) hc rfl rfl zki_1 (zlt rfl) rfl rfl ?_
            refine g_goto hc rfl ?_
            replace h := zwp_l h
            exact h
          · replace h := zwp_t h hx
            refine g_aload_n (pc' := 67)  hc rfl rfl rfl rfl ?_
            refine z_stat (as := [.ref 1]) (r := []) hc rfl rfl rfl rfl zco_32 rfl rfl rfl ?_
            refine ok_X4_readStop_1 (zdp hd rfl) (zwp_mono (zwp_bind h) ?_)
            rintro ⟨r111, o107, o108, o109, o110⟩ h
            refine z_po (pc' := 70) (st' := [.int r111]) (v := (some (.int r111))) (L' := [(1, some 2, fun _ => o13), (1, some 3, fun _ => o110), (1, some 4, fun _ => o107), (1, some 5, fun _ => o108), (1, some 6, fun _ => o109), (3, some 1, fun _ => o95), (4, some 1, fun _ => o101), (4, some 2, fun _ => o97), (4, some 3, fun _ => o98), (4, some 4, fun _ => o96), (4, some 5, fun _ => o99), (5, none, o100), (19, some 0, fun _ => j19), (19, some 1, fun _ => j18), (19, some 3, fun _ => o82), (19, some 7, fun _ => o90), (19, some 9, fun _ => o88), (19, some 11, fun _ => o81), (19, some 12, fun _ => o80), (20, none, o91), (21, none, o92), (22, none, o94), (23, none, o89), (24, none, o87), (25, some 2, fun _ => o84), (27, none, o83), (28, some 2, fun _ => o86), (30, none, o85)]) (K' := [(19, some 2, fun _ => o93)]) zco_32 rfl rfl rfl rfl rfl rfl rfl rfl ?_
            refine g_istore (pc' := 72) (ls1 := [some (.ref 3), some (.ref 1), some (.int a2), some (.ref 19), some (.int r111), some (.int x25)]) hc rfl (zlt rfl) rfl rfl ?_
            refine g_iinc (pc' := 75) (ls1 := [some (.ref 3), some (.ref 1), some (.int a2), some (.ref 19), some (.int r111), some (.int (x25 + (1 : Int32)))]) hc rfl rfl zki_1 (zlt rfl) rfl rfl ?_
            refine g_goto hc rfl ?_
            replace h := zwp_l h
            exact h
  refine g_if_eq (pc' := 18) hc rfl rfl (fun hx => ?_) (fun hx => ?_)
  · replace h := zwp_t h hx
    refine g_iconst (pc' := 28) (v := (0 : Int32)) hc rfl zki_0 rfl ?_
    replace h := zws h
    exact h
  · replace h := zwp_f h hx
    refine g_aload_n (pc' := 19)  hc rfl rfl rfl rfl ?_
    refine g_aload_n (pc' := 20)  hc rfl rfl rfl rfl ?_
    refine g_aload_n (pc' := 21)  hc rfl rfl rfl rfl ?_
    refine z_virt (as := [.ref 1, .ref 19]) (a := 3) (r := []) hc rfl rfl rfl rfl sh_3 rfl zco_31 rfl rfl rfl ?_
    refine ok_X4_readTable_3_1_19 (zdp hd rfl) (zwp_mono (zwp_bind h) ?_)
    rintro ⟨r118, o112, o113, o114, o115, o116, o117⟩ h
    refine z_po (pc' := 24) (st' := [.int r118]) (v := (some (.int r118))) (L' := [(1, some 2, fun _ => o13), (1, some 3, fun _ => o117), (1, some 4, fun _ => o114), (1, some 5, fun _ => o115), (1, some 6, fun _ => o116), (3, some 1, fun _ => (I 3 1)), (4, some 1, fun _ => (I 4 1)), (4, some 2, fun _ => (I 4 2)), (4, some 3, fun _ => (I 4 3)), (4, some 4, fun _ => (I 4 4)), (4, some 5, fun _ => (I 4 5)), (5, none, (I 5)), (19, some 0, fun _ => o113), (19, some 1, fun _ => o112), (19, some 3, fun _ => o3), (19, some 7, fun _ => o8), (19, some 9, fun _ => o7), (19, some 11, fun _ => o2), (19, some 12, fun _ => o1), (20, none, (I 20)), (21, none, (I 21)), (22, none, (I 22)), (23, none, (I 23)), (24, none, (I 24)), (25, some 2, fun _ => o4), (27, none, (I 27)), (28, some 2, fun _ => o6), (30, none, (I 30))]) (K' := [(19, some 2, fun _ => o9)]) zco_31 rfl rfl rfl rfl rfl rfl rfl rfl ?_
    refine g_goto hc rfl ?_
    replace h := zws h
    exact h
set_option maxRecDepth 4000 in
theorem ok_J7_fill_53178_33 {p q : Nat} {I : pI} {J : pJ} {a1 : Int32} {Q : pQ} {d : Nat} (hd : 1 ≤ d) (h : zwp (f_J7_fill_53178 a1 8 (I 33)) (fun o0 => Q (.inl none) (zS p q I [(33, none, o0)] J []))) : pm_call M cost zext d 268 [.ref 33, .int a1] (pm_st 108 (shp p q) I J) Q := by
  obtain ⟨d, rfl⟩ := zd1 hd rfl
  have hc := pm_call_m (M := M) (cost := cost) zext_m d
  refine z_in (L := [(33, none, (I 33))]) (K := []) (ls := [some (.ref 33), some (.int a1), none, none]) zmt_268 zco_268 rfl rfl (zid_a zid_n) zid_n ?_
  delta f_J7_fill_53178 at h
  refine g_iconst (pc' := 1) (v := (0 : Int32)) hc rfl zki_0 rfl ?_
  refine g_istore_n (pc' := 2) (ls1 := [some (.ref 33), some (.int a1), some (.int (0 : Int32)), none]) hc rfl (zlt rfl) rfl rfl ?_
  refine g_aload_n (pc' := 3)  hc rfl rfl rfl rfl ?_
  refine z_alen (pc' := 4) (v := (Int32.ofNat 8)) hc rfl rfl sh_33 ⟨by decide, by decide⟩ rfl rfl ?_
  refine g_istore_n (pc' := 5) (ls1 := [some (.ref 33), some (.int a1), some (.int (0 : Int32)), some (.int (Int32.ofNat 8))]) hc rfl (zlt rfl) rfl rfl ?_
  refine zjn (G := (fun (y4 : (Nat → Int32)) => ∀ z3 : Option Value, znl z3 = true → pm_ev C_J7_fill_53178 (d + 1) (pm_call M cost zext d) cost (false, false) 108 0 0 Q 20 [some (.ref 33), some (.int a1), z3, some (.int (Int32.ofNat 8))] [] 0 0 (zS p q I [(33, none, y4)] J []))) (zwp_bind h) ?_ (fun h => ?_)
  · rintro y4 h z3 hz3
    replace h := zws h
    exact g_return hc rfl rfl (fun _ => ⟨rfl, rfl⟩) h
  refine zitr_ev (G := (fun (g : Int32 × (Nat → Int32)) => match g with | (x1, x2) => pm_ev C_J7_fill_53178 (d + 1) (pm_call M cost zext d) cost (false, false) 108 0 0 Q 5 [some (.ref 33), some (.int a1), some (.int x1), some (.int (Int32.ofNat 8))] [] 0 0 (zS p q I [(33, none, x2)] J []))) ?_ zFU ((0 : Int32), (I 33)) h
  rintro ⟨x1, x2⟩ h
  refine g_iload_n (pc' := 6)  hc rfl rfl rfl ?_
  refine g_iload_n (pc' := 7)  hc rfl rfl rfl ?_
  refine g_icmp_ge (pc' := 10) hc rfl rfl (fun hx => ?_) (fun hx => ?_)
  · replace h := zwp_t h hx
    replace h := zwp_r h
    exact h (some (.int x1)) rfl
  · replace h := zwp_f h hx
    refine g_aload_n (pc' := 11)  hc rfl rfl rfl rfl ?_
    refine g_iload_n (pc' := 12)  hc rfl rfl rfl ?_
    refine g_iload_n (pc' := 13)  hc rfl rfl rfl ?_
    have hb := (zwp_bnd h).1
    replace h := (zwp_bnd h).2
    refine z_iastore (pc' := 14) (g := x2) (L' := [(33, none, (upd x2 x1.toNatClampNeg a1))]) hc rfl rfl sh_33 hb rfl rfl rfl rfl ?_
    refine g_iinc (pc' := 17) (ls1 := [some (.ref 33), some (.int a1), some (.int (x1 + (1 : Int32))), some (.int (Int32.ofNat 8))]) hc rfl rfl zki_1 (zlt rfl) rfl rfl ?_
    refine g_goto hc rfl ?_
    replace h := zwp_l h
    exact h
set_option maxRecDepth 4000 in
theorem ok_J7_fill_53178_34 {p q : Nat} {I : pI} {J : pJ} {a1 : Int32} {Q : pQ} {d : Nat} (hd : 1 ≤ d) (h : zwp (f_J7_fill_53178 a1 8 (I 34)) (fun o0 => Q (.inl none) (zS p q I [(34, none, o0)] J []))) : pm_call M cost zext d 268 [.ref 34, .int a1] (pm_st 108 (shp p q) I J) Q := by
  obtain ⟨d, rfl⟩ := zd1 hd rfl
  have hc := pm_call_m (M := M) (cost := cost) zext_m d
  refine z_in (L := [(34, none, (I 34))]) (K := []) (ls := [some (.ref 34), some (.int a1), none, none]) zmt_268 zco_268 rfl rfl (zid_a zid_n) zid_n ?_
  delta f_J7_fill_53178 at h
  refine g_iconst (pc' := 1) (v := (0 : Int32)) hc rfl zki_0 rfl ?_
  refine g_istore_n (pc' := 2) (ls1 := [some (.ref 34), some (.int a1), some (.int (0 : Int32)), none]) hc rfl (zlt rfl) rfl rfl ?_
  refine g_aload_n (pc' := 3)  hc rfl rfl rfl rfl ?_
  refine z_alen (pc' := 4) (v := (Int32.ofNat 8)) hc rfl rfl sh_34 ⟨by decide, by decide⟩ rfl rfl ?_
  refine g_istore_n (pc' := 5) (ls1 := [some (.ref 34), some (.int a1), some (.int (0 : Int32)), some (.int (Int32.ofNat 8))]) hc rfl (zlt rfl) rfl rfl ?_
  refine zjn (G := (fun (y4 : (Nat → Int32)) => ∀ z3 : Option Value, znl z3 = true → pm_ev C_J7_fill_53178 (d + 1) (pm_call M cost zext d) cost (false, false) 108 0 0 Q 20 [some (.ref 34), some (.int a1), z3, some (.int (Int32.ofNat 8))] [] 0 0 (zS p q I [(34, none, y4)] J []))) (zwp_bind h) ?_ (fun h => ?_)
  · rintro y4 h z3 hz3
    replace h := zws h
    exact g_return hc rfl rfl (fun _ => ⟨rfl, rfl⟩) h
  refine zitr_ev (G := (fun (g : Int32 × (Nat → Int32)) => match g with | (x1, x2) => pm_ev C_J7_fill_53178 (d + 1) (pm_call M cost zext d) cost (false, false) 108 0 0 Q 5 [some (.ref 34), some (.int a1), some (.int x1), some (.int (Int32.ofNat 8))] [] 0 0 (zS p q I [(34, none, x2)] J []))) ?_ zFU ((0 : Int32), (I 34)) h
  rintro ⟨x1, x2⟩ h
  refine g_iload_n (pc' := 6)  hc rfl rfl rfl ?_
  refine g_iload_n (pc' := 7)  hc rfl rfl rfl ?_
  refine g_icmp_ge (pc' := 10) hc rfl rfl (fun hx => ?_) (fun hx => ?_)
  · replace h := zwp_t h hx
    replace h := zwp_r h
    exact h (some (.int x1)) rfl
  · replace h := zwp_f h hx
    refine g_aload_n (pc' := 11)  hc rfl rfl rfl rfl ?_
    refine g_iload_n (pc' := 12)  hc rfl rfl rfl ?_
    refine g_iload_n (pc' := 13)  hc rfl rfl rfl ?_
    have hb := (zwp_bnd h).1
    replace h := (zwp_bnd h).2
    refine z_iastore (pc' := 14) (g := x2) (L' := [(34, none, (upd x2 x1.toNatClampNeg a1))]) hc rfl rfl sh_34 hb rfl rfl rfl rfl ?_
    refine g_iinc (pc' := 17) (ls1 := [some (.ref 34), some (.int a1), some (.int (x1 + (1 : Int32))), some (.int (Int32.ofNat 8))]) hc rfl rfl zki_1 (zlt rfl) rfl rfl ?_
    refine g_goto hc rfl ?_
    replace h := zwp_l h
    exact h
set_option maxRecDepth 4000 in
theorem ok_J7_fill_53178_35 {p q : Nat} {I : pI} {J : pJ} {a1 : Int32} {Q : pQ} {d : Nat} (hd : 1 ≤ d) (h : zwp (f_J7_fill_53178 a1 8 (I 35)) (fun o0 => Q (.inl none) (zS p q I [(35, none, o0)] J []))) : pm_call M cost zext d 268 [.ref 35, .int a1] (pm_st 108 (shp p q) I J) Q := by
  obtain ⟨d, rfl⟩ := zd1 hd rfl
  have hc := pm_call_m (M := M) (cost := cost) zext_m d
  refine z_in (L := [(35, none, (I 35))]) (K := []) (ls := [some (.ref 35), some (.int a1), none, none]) zmt_268 zco_268 rfl rfl (zid_a zid_n) zid_n ?_
  delta f_J7_fill_53178 at h
  refine g_iconst (pc' := 1) (v := (0 : Int32)) hc rfl zki_0 rfl ?_
  refine g_istore_n (pc' := 2) (ls1 := [some (.ref 35), some (.int a1), some (.int (0 : Int32)), none]) hc rfl (zlt rfl) rfl rfl ?_
  refine g_aload_n (pc' := 3)  hc rfl rfl rfl rfl ?_
  refine z_alen (pc' := 4) (v := (Int32.ofNat 8)) hc rfl rfl sh_35 ⟨by decide, by decide⟩ rfl rfl ?_
  refine g_istore_n (pc' := 5) (ls1 := [some (.ref 35), some (.int a1), some (.int (0 : Int32)), some (.int (Int32.ofNat 8))]) hc rfl (zlt rfl) rfl rfl ?_
  refine zjn (G := (fun (y4 : (Nat → Int32)) => ∀ z3 : Option Value, znl z3 = true → pm_ev C_J7_fill_53178 (d + 1) (pm_call M cost zext d) cost (false, false) 108 0 0 Q 20 [some (.ref 35), some (.int a1), z3, some (.int (Int32.ofNat 8))] [] 0 0 (zS p q I [(35, none, y4)] J []))) (zwp_bind h) ?_ (fun h => ?_)
  · rintro y4 h z3 hz3
    replace h := zws h
    exact g_return hc rfl rfl (fun _ => ⟨rfl, rfl⟩) h
  refine zitr_ev (G := (fun (g : Int32 × (Nat → Int32)) => match g with | (x1, x2) => pm_ev C_J7_fill_53178 (d + 1) (pm_call M cost zext d) cost (false, false) 108 0 0 Q 5 [some (.ref 35), some (.int a1), some (.int x1), some (.int (Int32.ofNat 8))] [] 0 0 (zS p q I [(35, none, x2)] J []))) ?_ zFU ((0 : Int32), (I 35)) h
  rintro ⟨x1, x2⟩ h
  refine g_iload_n (pc' := 6)  hc rfl rfl rfl ?_
  refine g_iload_n (pc' := 7)  hc rfl rfl rfl ?_
  refine g_icmp_ge (pc' := 10) hc rfl rfl (fun hx => ?_) (fun hx => ?_)
  · replace h := zwp_t h hx
    replace h := zwp_r h
    exact h (some (.int x1)) rfl
  · replace h := zwp_f h hx
    refine g_aload_n (pc' := 11)  hc rfl rfl rfl rfl ?_
    refine g_iload_n (pc' := 12)  hc rfl rfl rfl ?_
    refine g_iload_n (pc' := 13)  hc rfl rfl rfl ?_
    have hb := (zwp_bnd h).1
    replace h := (zwp_bnd h).2
    refine z_iastore (pc' := 14) (g := x2) (L' := [(35, none, (upd x2 x1.toNatClampNeg a1))]) hc rfl rfl sh_35 hb rfl rfl rfl rfl ?_
    refine g_iinc (pc' := 17) (ls1 := [some (.ref 35), some (.int a1), some (.int (x1 + (1 : Int32))), some (.int (Int32.ofNat 8))]) hc rfl rfl zki_1 (zlt rfl) rfl rfl ?_
    refine g_goto hc rfl ?_
    replace h := zwp_l h
    exact h
set_option maxRecDepth 4000 in
theorem ok_X8_begin_31_19 {p q : Nat} {I : pI} {J : pJ} {Q : pQ} {d : Nat} (hd : 3 ≤ d) (h : zwp (f_X8_begin (I 32) (I 31 3) (I 34) (I 31 0) (I 35) (I 31 1) (I 19 3) (I 20) (J 19 2) (I 33) (J 31 2)) (fun w => match w with | (o0, o1, o2, o3, o4, o5, o6, o7) => Q (.inl none) (zS p q I [(31, some 0, fun _ => o3), (31, some 1, fun _ => o5), (31, some 3, fun _ => o1), (32, none, o0), (33, none, o6), (34, none, o2), (35, none, o4)] J [(31, some 2, fun _ => o7)]))) : pm_call M cost zext d 67 [.ref 31, .ref 19] (pm_st 108 (shp p q) I J) Q := by
  obtain ⟨d, rfl⟩ := zd1 hd rfl
  have hc := pm_call_m (M := M) (cost := cost) zext_m d
  refine z_in (L := [(31, some 0, fun _ => (I 31 0)), (31, some 1, fun _ => (I 31 1)), (31, some 3, fun _ => (I 31 3)), (32, none, (I 32)), (33, none, (I 33)), (34, none, (I 34)), (35, none, (I 35))]) (K := [(31, some 2, fun _ => (J 31 2))]) (ls := [some (.ref 31), some (.ref 19)]) zmt_67 zco_67 rfl rfl (zid_s (zid_s (zid_s (zid_a (zid_a (zid_a (zid_a zid_n))))))) (zid_s zid_n) ?_
  delta f_X8_begin at h
  refine g_aload_n (pc' := 1)  hc rfl rfl rfl rfl ?_
  refine g_iconst (pc' := 2) (v := (0 : Int32)) hc rfl zki_0 rfl ?_
  refine z_putI (pc' := 5) (L' := [(31, some 0, fun _ => (0 : Int32)), (31, some 1, fun _ => (I 31 1)), (31, some 3, fun _ => (I 31 3)), (32, none, (I 32)), (33, none, (I 33)), (34, none, (I 34)), (35, none, (I 35))]) hc rfl rfl rfl sh_31 rfl zft_8_0 rfl (fun h => Bool.noConfusion h) rfl rfl rfl ?_
  refine g_aload_n (pc' := 6)  hc rfl rfl rfl rfl ?_
  refine g_iconst (pc' := 7) (v := (0 : Int32)) hc rfl zki_0 rfl ?_
  refine z_putI (pc' := 10) (L' := [(31, some 0, fun _ => (0 : Int32)), (31, some 1, fun _ => (0 : Int32)), (31, some 3, fun _ => (I 31 3)), (32, none, (I 32)), (33, none, (I 33)), (34, none, (I 34)), (35, none, (I 35))]) hc rfl rfl rfl sh_31 rfl zft_8_1 rfl (fun h => Bool.noConfusion h) rfl rfl rfl ?_
  refine g_aload_n (pc' := 11)  hc rfl rfl rfl rfl ?_
  refine g_aload_n (pc' := 12)  hc rfl rfl rfl rfl ?_
  refine z_getJ (pc' := 15) (v := (J 19 2)) hc rfl rfl rfl sh_19 rfl rfl rfl ?_
  refine z_putJ (pc' := 18) (K' := [(31, some 2, fun _ => (J 19 2))]) hc rfl rfl rfl sh_31 rfl zft_8_2 (fun h => Bool.noConfusion h) rfl rfl rfl ?_
  refine g_aload_n (pc' := 19)  hc rfl rfl rfl rfl ?_
  refine g_aload_n (pc' := 20)  hc rfl rfl rfl rfl ?_
  refine z_getI (pc' := 23) (v := (I 19 3)) hc rfl rfl rfl sh_19 rfl rfl rfl ?_
  refine z_putI (pc' := 26) (L' := [(31, some 0, fun _ => (0 : Int32)), (31, some 1, fun _ => (0 : Int32)), (31, some 3, fun _ => (I 19 3)), (32, none, (I 32)), (33, none, (I 33)), (34, none, (I 34)), (35, none, (I 35))]) hc rfl rfl rfl sh_31 rfl zft_8_3 rfl (fun h => Bool.noConfusion h) rfl rfl rfl ?_
  refine g_aload_n (pc' := 27)  hc rfl rfl rfl rfl ?_
  refine z_getR (pc' := 30)  hc rfl rfl rfl sh_19 rfl rfl ?_
  refine g_iconst (pc' := 31) (v := (0 : Int32)) hc rfl zki_0 rfl ?_
  refine g_aload_n (pc' := 32)  hc rfl rfl rfl rfl ?_
  refine z_getR (pc' := 35)  hc rfl rfl rfl sh_31 rfl rfl ?_
  refine g_iconst (pc' := 36) (v := (0 : Int32)) hc rfl zki_0 rfl ?_
  refine g_bipush (pc' := 38) (v := (8 : Int32)) hc rfl zkb_8 rfl ?_
  refine z_acpy (pc' := 41) (f := (I 20)) (g := (I 32)) (L' := [(31, some 0, fun _ => (0 : Int32)), (31, some 1, fun _ => (0 : Int32)), (31, some 3, fun _ => (I 19 3)), (32, none, (va_cpy ((I 20)) ((I 32)) 0 0 8)), (33, none, (I 33)), (34, none, (I 34)), (35, none, (I 35))]) hc rfl rfl (zdq hd rfl) rfl sh_20 rfl sh_32 (by decide) rfl rfl rfl rfl rfl rfl ?_
  refine g_aload_n (pc' := 42)  hc rfl rfl rfl rfl ?_
  refine z_getR (pc' := 45)  hc rfl rfl rfl sh_31 rfl rfl ?_
  refine g_iconst (pc' := 46) (v := (0 : Int32)) hc rfl zki_0 rfl ?_
  refine z_stat (as := [.ref 33, .int (0 : Int32)]) (r := []) hc rfl rfl rfl rfl zco_268 rfl rfl rfl ?_
  refine ok_J7_fill_53178_33 (zdp hd rfl) (zwp_mono (zwp_bind h) ?_)
  rintro o1 h
  refine z_po (pc' := 49) (st' := []) (v := none) (L' := [(31, some 0, fun _ => (0 : Int32)), (31, some 1, fun _ => (0 : Int32)), (31, some 3, fun _ => (I 19 3)), (32, none, (va_cpy ((I 20)) ((I 32)) 0 0 8)), (33, none, o1), (34, none, (I 34)), (35, none, (I 35))]) (K' := [(31, some 2, fun _ => (J 19 2))]) zco_268 rfl rfl rfl rfl rfl rfl rfl rfl ?_
  refine g_aload_n (pc' := 50)  hc rfl rfl rfl rfl ?_
  refine z_getR (pc' := 53)  hc rfl rfl rfl sh_31 rfl rfl ?_
  refine g_iconst (pc' := 54) (v := (0 : Int32)) hc rfl zki_0 rfl ?_
  refine z_stat (as := [.ref 34, .int (0 : Int32)]) (r := []) hc rfl rfl rfl rfl zco_268 rfl rfl rfl ?_
  refine ok_J7_fill_53178_34 (zdp hd rfl) (zwp_mono (zwp_bind h) ?_)
  rintro o2 h
  refine z_po (pc' := 57) (st' := []) (v := none) (L' := [(31, some 0, fun _ => (0 : Int32)), (31, some 1, fun _ => (0 : Int32)), (31, some 3, fun _ => (I 19 3)), (32, none, (va_cpy ((I 20)) ((I 32)) 0 0 8)), (33, none, o1), (34, none, o2), (35, none, (I 35))]) (K' := [(31, some 2, fun _ => (J 19 2))]) zco_268 rfl rfl rfl rfl rfl rfl rfl rfl ?_
  refine g_aload_n (pc' := 58)  hc rfl rfl rfl rfl ?_
  refine z_getR (pc' := 61)  hc rfl rfl rfl sh_31 rfl rfl ?_
  refine g_iconst (pc' := 62) (v := (0 : Int32)) hc rfl zki_0 rfl ?_
  refine z_stat (as := [.ref 35, .int (0 : Int32)]) (r := []) hc rfl rfl rfl rfl zco_268 rfl rfl rfl ?_
  refine ok_J7_fill_53178_35 (zdp hd rfl) (zwp_mono (zwp_bind h) ?_)
  rintro o3 h
  refine z_po (pc' := 65) (st' := []) (v := none) (L' := [(31, some 0, fun _ => (0 : Int32)), (31, some 1, fun _ => (0 : Int32)), (31, some 3, fun _ => (I 19 3)), (32, none, (va_cpy ((I 20)) ((I 32)) 0 0 8)), (33, none, o1), (34, none, o2), (35, none, o3)]) (K' := [(31, some 2, fun _ => (J 19 2))]) zco_268 rfl rfl rfl rfl rfl rfl rfl rfl ?_
  replace h := zws h
  exact g_return hc rfl rfl (fun _ => ⟨rfl, rfl⟩) h
set_option maxRecDepth 4000 in
theorem ok_X0_clearActs_36 {p q : Nat} {I : pI} {J : pJ} {Q : pQ} {d : Nat} (hd : 1 ≤ d) (h : zwp (f_X0_clearActs (I 36 2)) (fun o0 => Q (.inl none) (zS p q I [(36, some 2, fun _ => o0)] J []))) : pm_call M cost zext d 1 [.ref 36] (pm_st 108 (shp p q) I J) Q := by
  obtain ⟨d, rfl⟩ := zd1 hd rfl
  have hc := pm_call_m (M := M) (cost := cost) zext_m d
  refine z_in (L := [(36, some 2, fun _ => (I 36 2))]) (K := []) (ls := [some (.ref 36)]) zmt_1 zco_1 rfl rfl (zid_s zid_n) zid_n ?_
  delta f_X0_clearActs at h
  refine g_aload_n (pc' := 1)  hc rfl rfl rfl rfl ?_
  refine g_iconst (pc' := 2) (v := (0 : Int32)) hc rfl zki_0 rfl ?_
  refine z_putI (pc' := 5) (L' := [(36, some 2, fun _ => (0 : Int32))]) hc rfl rfl rfl sh_36 rfl zft_0_2 rfl (fun h => Bool.noConfusion h) rfl rfl rfl ?_
  replace h := zws h
  exact g_return hc rfl rfl (fun _ => ⟨rfl, rfl⟩) h
set_option maxHeartbeats 20000000 in
set_option maxRecDepth 4000 in
theorem ok_X11_town_0_p {I : pI} {J : pJ} {a1 : Int32} {Q : pQ} {d : Nat} (hd : 13 ≤ d) (h : zwp (f_X11_town a1 (I 36 2) (I 36 3) (I 0 2) (I 0 8) (I 32) (I 31 3) (I 34) (I 31 0) (I 35) (I 31 1) (I 33) (J 31 2) (I 3 1) (I 4 4) (I 4 2) (I 4 3) (I 4 5) (I 5) (I 4 1) (I 6) (I 19 12) (I 19 11) (I 19 3) (I 27) (I 25 2) (I 19 1) (I 30) (I 28 2) (I 24) (I 19 9) (I 23) (I 19 7) (I 20) (I 21) (J 19 2) (I 22) (I 19 0) (I 2) (I 1 4) (I 1 5) (I 1 2) (I 1 6) (I 1 3) (I 1 1)) (fun w => match w with | (.inl r, sw, o0, o1, o2, o3, o4, o5, o6, o7, o8, o9, o10, o11, o12, o13, o14, o15, o16, o17, o18, o19, o20, o21, o22, o23, o24, o25, o26, o27, o28, o29, o30, o31, o32, o33, o34, o35, o36, o37, o38, o39, o40, o41, o42) => Q (.inl (some (.int r))) (zS (cond sw 19 7) (cond sw 7 19) I [(0, some 2, fun _ => o2), (0, some 8, fun _ => o3), (1, some 1, fun _ => o42), (1, some 2, fun _ => o39), (1, some 3, fun _ => o41), (1, some 4, fun _ => o37), (1, some 5, fun _ => o38), (1, some 6, fun _ => o40), (3, some 1, fun _ => o12), (4, some 1, fun _ => o18), (4, some 2, fun _ => o14), (4, some 3, fun _ => o15), (4, some 4, fun _ => o13), (4, some 5, fun _ => o16), (5, none, o17), (6, none, o19), (19, some 0, fun _ => o36), (19, some 1, fun _ => o25), (19, some 3, fun _ => o22), (19, some 7, fun _ => o31), (19, some 9, fun _ => o29), (19, some 11, fun _ => o21), (19, some 12, fun _ => o20), (20, none, o32), (21, none, o33), (22, none, o35), (23, none, o30), (24, none, o28), (25, some 2, fun _ => o24), (27, none, o23), (28, some 2, fun _ => o27), (30, none, o26), (31, some 0, fun _ => o7), (31, some 1, fun _ => o9), (31, some 3, fun _ => o5), (32, none, o4), (33, none, o10), (34, none, o6), (35, none, o8), (36, some 2, fun _ => o0), (36, some 3, fun _ => o1)] J [(19, some 2, fun _ => o34), (31, some 2, fun _ => o11)]) | (.inr E, sw, o0, o1, o2, o3, o4, o5, o6, o7, o8, o9, o10, o11, o12, o13, o14, o15, o16, o17, o18, o19, o20, o21, o22, o23, o24, o25, o26, o27, o28, o29, o30, o31, o32, o33, o34, o35, o36, o37, o38, o39, o40, o41, o42) => Q (.inr E) (zS (cond sw 19 7) (cond sw 7 19) I [(0, some 2, fun _ => o2), (0, some 8, fun _ => o3), (1, some 1, fun _ => o42), (1, some 2, fun _ => o39), (1, some 3, fun _ => o41), (1, some 4, fun _ => o37), (1, some 5, fun _ => o38), (1, some 6, fun _ => o40), (3, some 1, fun _ => o12), (4, some 1, fun _ => o18), (4, some 2, fun _ => o14), (4, some 3, fun _ => o15), (4, some 4, fun _ => o13), (4, some 5, fun _ => o16), (5, none, o17), (6, none, o19), (19, some 0, fun _ => o36), (19, some 1, fun _ => o25), (19, some 3, fun _ => o22), (19, some 7, fun _ => o31), (19, some 9, fun _ => o29), (19, some 11, fun _ => o21), (19, some 12, fun _ => o20), (20, none, o32), (21, none, o33), (22, none, o35), (23, none, o30), (24, none, o28), (25, some 2, fun _ => o24), (27, none, o23), (28, some 2, fun _ => o27), (30, none, o26), (31, some 0, fun _ => o7), (31, some 1, fun _ => o9), (31, some 3, fun _ => o5), (32, none, o4), (33, none, o10), (34, none, o6), (35, none, o8), (36, some 2, fun _ => o0), (36, some 3, fun _ => o1)] J [(19, some 2, fun _ => o34), (31, some 2, fun _ => o11)]))) : pm_call M cost zext d 98 [.ref 0, .int a1] (pm_st 108 (shp 7 19) I J) Q := by
  obtain ⟨d, rfl⟩ := zd1 hd rfl
  have hc := pm_call_m (M := M) (cost := cost) zext_m d
  refine z_in (L := [(0, some 2, fun _ => (I 0 2)), (0, some 8, fun _ => (I 0 8)), (1, some 1, fun _ => (I 1 1)), (1, some 2, fun _ => (I 1 2)), (1, some 3, fun _ => (I 1 3)), (1, some 4, fun _ => (I 1 4)), (1, some 5, fun _ => (I 1 5)), (1, some 6, fun _ => (I 1 6)), (3, some 1, fun _ => (I 3 1)), (4, some 1, fun _ => (I 4 1)), (4, some 2, fun _ => (I 4 2)), (4, some 3, fun _ => (I 4 3)), (4, some 4, fun _ => (I 4 4)), (4, some 5, fun _ => (I 4 5)), (5, none, (I 5)), (6, none, (I 6)), (19, some 0, fun _ => (I 19 0)), (19, some 1, fun _ => (I 19 1)), (19, some 3, fun _ => (I 19 3)), (19, some 7, fun _ => (I 19 7)), (19, some 9, fun _ => (I 19 9)), (19, some 11, fun _ => (I 19 11)), (19, some 12, fun _ => (I 19 12)), (20, none, (I 20)), (21, none, (I 21)), (22, none, (I 22)), (23, none, (I 23)), (24, none, (I 24)), (25, some 2, fun _ => (I 25 2)), (27, none, (I 27)), (28, some 2, fun _ => (I 28 2)), (30, none, (I 30)), (31, some 0, fun _ => (I 31 0)), (31, some 1, fun _ => (I 31 1)), (31, some 3, fun _ => (I 31 3)), (32, none, (I 32)), (33, none, (I 33)), (34, none, (I 34)), (35, none, (I 35)), (36, some 2, fun _ => (I 36 2)), (36, some 3, fun _ => (I 36 3))]) (K := [(19, some 2, fun _ => (J 19 2)), (31, some 2, fun _ => (J 31 2))]) (ls := [some (.ref 0), some (.int a1), none, none]) zmt_98 zco_98 rfl rfl (zid_s (zid_s (zid_s (zid_s (zid_s (zid_s (zid_s (zid_s (zid_s (zid_s (zid_s (zid_s (zid_s (zid_s (zid_a (zid_a (zid_s (zid_s (zid_s (zid_s (zid_s (zid_s (zid_s (zid_a (zid_a (zid_a (zid_a (zid_a (zid_s (zid_a (zid_s (zid_a (zid_s (zid_s (zid_s (zid_a (zid_a (zid_a (zid_a (zid_s (zid_s zid_n))))))))))))))))))))))))))))))))))))))))) (zid_s (zid_s zid_n)) ?_
  delta f_X11_town at h
  refine g_iload_n (pc' := 1)  hc rfl rfl rfl ?_
  refine g_if_lt (pc' := 4) hc rfl rfl (fun hx => ?_) (fun hx => ?_)
  · replace h := zwp_t h hx
    replace h := zws h
    exact z_throw hc rfl rfl (zdq hd rfl) rfl rfl rfl h
  · replace h := zwp_f h hx
    refine g_iload_n (pc' := 5)  hc rfl rfl rfl ?_
    refine g_aload_n (pc' := 6)  hc rfl rfl rfl rfl ?_
    refine z_getR (pc' := 9)  hc rfl rfl rfl sh_0 rfl rfl ?_
    refine z_getI (pc' := 12) (v := (I 1 1)) hc rfl rfl rfl sh_1 rfl rfl rfl ?_
    refine g_icmp_le (pc' := 15) hc rfl rfl (fun hx => ?_) (fun hx => ?_)
    · replace h := zwp_t h hx
      refine g_aload_n (pc' := 26)  hc rfl rfl rfl rfl ?_
      refine z_getR (pc' := 29)  hc rfl rfl rfl sh_0 rfl rfl ?_
      refine g_aload_n (pc' := 30)  hc rfl rfl rfl rfl ?_
      refine z_getR (pc' := 33)  hc rfl rfl rfl sh_0 rfl rfl ?_
      refine g_iload_n (pc' := 34)  hc rfl rfl rfl ?_
      refine g_aload_n (pc' := 35)  hc rfl rfl rfl rfl ?_
      refine z_getR (pc' := 38)  hc rfl rfl rfl sh_0 rfl rfl ?_
      refine z_virt (as := [.ref 1, .int a1, .ref 19]) (a := 3) (r := []) hc rfl rfl rfl rfl sh_3 rfl zco_30 rfl rfl rfl ?_
      refine ok_X4_read_3_1_19 (zdp hd rfl) (zwp_mono (zwp_bind h) ?_)
      rintro ⟨r30, o1, o2, o3, o4, o5, o6, o7, o8, o9, o10, o11, o12, o13, o14, o15, o16, o17, o18, o19, o20, o21, o22, o23, o24, o25, o26, o27, o28, o29⟩ h
      refine z_po (pc' := 41) (st' := [.int r30]) (v := (some (.int r30))) (L' := [(0, some 2, fun _ => (I 0 2)), (0, some 8, fun _ => (I 0 8)), (1, some 1, fun _ => (I 1 1)), (1, some 2, fun _ => o27), (1, some 3, fun _ => o29), (1, some 4, fun _ => o25), (1, some 5, fun _ => o26), (1, some 6, fun _ => o28), (3, some 1, fun _ => o18), (4, some 1, fun _ => o24), (4, some 2, fun _ => o20), (4, some 3, fun _ => o21), (4, some 4, fun _ => o19), (4, some 5, fun _ => o22), (5, none, o23), (6, none, (I 6)), (19, some 0, fun _ => o17), (19, some 1, fun _ => o6), (19, some 3, fun _ => o3), (19, some 7, fun _ => o12), (19, some 9, fun _ => o10), (19, some 11, fun _ => o2), (19, some 12, fun _ => o1), (20, none, o13), (21, none, o14), (22, none, o16), (23, none, o11), (24, none, o9), (25, some 2, fun _ => o5), (27, none, o4), (28, some 2, fun _ => o8), (30, none, o7), (31, some 0, fun _ => (I 31 0)), (31, some 1, fun _ => (I 31 1)), (31, some 3, fun _ => (I 31 3)), (32, none, (I 32)), (33, none, (I 33)), (34, none, (I 34)), (35, none, (I 35)), (36, some 2, fun _ => (I 36 2)), (36, some 3, fun _ => (I 36 3))]) (K' := [(19, some 2, fun _ => o15), (31, some 2, fun _ => (J 31 2))]) zco_30 rfl rfl rfl rfl rfl rfl rfl rfl ?_
      refine g_istore_n (pc' := 42) (ls1 := [some (.ref 0), some (.int a1), some (.int r30), none]) hc rfl (zlt rfl) rfl rfl ?_
      refine g_aload_n (pc' := 43)  hc rfl rfl rfl rfl ?_
      refine z_getR (pc' := 46)  hc rfl rfl rfl sh_0 rfl rfl ?_
      refine g_iconst (pc' := 47) (v := (0 : Int32)) hc rfl zki_0 rfl ?_
      refine z_putI (pc' := 50) (L' := [(0, some 2, fun _ => (I 0 2)), (0, some 8, fun _ => (I 0 8)), (1, some 1, fun _ => (0 : Int32)), (1, some 2, fun _ => o27), (1, some 3, fun _ => o29), (1, some 4, fun _ => o25), (1, some 5, fun _ => o26), (1, some 6, fun _ => o28), (3, some 1, fun _ => o18), (4, some 1, fun _ => o24), (4, some 2, fun _ => o20), (4, some 3, fun _ => o21), (4, some 4, fun _ => o19), (4, some 5, fun _ => o22), (5, none, o23), (6, none, (I 6)), (19, some 0, fun _ => o17), (19, some 1, fun _ => o6), (19, some 3, fun _ => o3), (19, some 7, fun _ => o12), (19, some 9, fun _ => o10), (19, some 11, fun _ => o2), (19, some 12, fun _ => o1), (20, none, o13), (21, none, o14), (22, none, o16), (23, none, o11), (24, none, o9), (25, some 2, fun _ => o5), (27, none, o4), (28, some 2, fun _ => o8), (30, none, o7), (31, some 0, fun _ => (I 31 0)), (31, some 1, fun _ => (I 31 1)), (31, some 3, fun _ => (I 31 3)), (32, none, (I 32)), (33, none, (I 33)), (34, none, (I 34)), (35, none, (I 35)), (36, some 2, fun _ => (I 36 2)), (36, some 3, fun _ => (I 36 3))]) hc rfl rfl rfl sh_1 rfl zft_9_1 rfl (fun h => Bool.noConfusion h) rfl rfl rfl ?_
      refine g_iload_n (pc' := 51)  hc rfl rfl rfl ?_
      refine g_if_eq (pc' := 54) hc rfl rfl (fun hx => ?_) (fun hx => ?_)
      · replace h := zwp_t h hx
        refine g_aload_n (pc' := 78)  hc rfl rfl rfl rfl ?_
        refine g_iconst (pc' := 79) (v := (-1 : Int32)) hc rfl zki_m1 rfl ?_
        refine z_putI (pc' := 82) (L' := [(0, some 2, fun _ => (-1 : Int32)), (0, some 8, fun _ => (I 0 8)), (1, some 1, fun _ => (0 : Int32)), (1, some 2, fun _ => o27), (1, some 3, fun _ => o29), (1, some 4, fun _ => o25), (1, some 5, fun _ => o26), (1, some 6, fun _ => o28), (3, some 1, fun _ => o18), (4, some 1, fun _ => o24), (4, some 2, fun _ => o20), (4, some 3, fun _ => o21), (4, some 4, fun _ => o19), (4, some 5, fun _ => o22), (5, none, o23), (6, none, (I 6)), (19, some 0, fun _ => o17), (19, some 1, fun _ => o6), (19, some 3, fun _ => o3), (19, some 7, fun _ => o12), (19, some 9, fun _ => o10), (19, some 11, fun _ => o2), (19, some 12, fun _ => o1), (20, none, o13), (21, none, o14), (22, none, o16), (23, none, o11), (24, none, o9), (25, some 2, fun _ => o5), (27, none, o4), (28, some 2, fun _ => o8), (30, none, o7), (31, some 0, fun _ => (I 31 0)), (31, some 1, fun _ => (I 31 1)), (31, some 3, fun _ => (I 31 3)), (32, none, (I 32)), (33, none, (I 33)), (34, none, (I 34)), (35, none, (I 35)), (36, some 2, fun _ => (I 36 2)), (36, some 3, fun _ => (I 36 3))]) hc rfl rfl rfl sh_0 rfl zft_11_2 rfl (fun h => Bool.noConfusion h) rfl rfl rfl ?_
        refine g_aload_n (pc' := 83)  hc rfl rfl rfl rfl ?_
        refine z_getR (pc' := 86)  hc rfl rfl rfl sh_0 rfl rfl ?_
        refine g_astore_n (pc' := 87) (ls1 := [some (.ref 0), some (.int a1), some (.int r30), some (.ref 7)]) hc rfl rfl (zlt rfl) rfl rfl ?_
        refine g_aload_n (pc' := 88)  hc rfl rfl rfl rfl ?_
        refine g_aload_n (pc' := 89)  hc rfl rfl rfl rfl ?_
        refine z_getR (pc' := 92)  hc rfl rfl rfl sh_0 rfl rfl ?_
        refine z_putP (pc' := 95) (b := 19) hc rfl rfl rfl ?_
        refine g_aload_n (pc' := 96)  hc rfl rfl rfl rfl ?_
        refine g_aload_n (pc' := 97)  hc rfl rfl rfl rfl ?_
        refine z_putQ (pc' := 100) (b := 7) hc rfl rfl rfl ?_
        refine g_aload_n (pc' := 101)  hc rfl rfl rfl rfl ?_
        refine z_getR (pc' := 104)  hc rfl rfl rfl sh_0 rfl rfl ?_
        refine g_aload_n (pc' := 105)  hc rfl rfl rfl rfl ?_
        refine z_getR (pc' := 108)  hc rfl rfl rfl sh_0 rfl rfl ?_
        refine z_virt (as := [.ref 19]) (a := 31) (r := []) hc rfl rfl rfl rfl sh_31 rfl zco_67 rfl rfl rfl ?_
        refine ok_X8_begin_31_19 (zdp hd rfl) (zwp_mono (zwp_bind h) ?_)
        rintro ⟨o31, o32, o33, o34, o35, o36, o37, o38⟩ h
        refine z_po (pc' := 111) (st' := []) (v := none) (L' := [(0, some 2, fun _ => (-1 : Int32)), (0, some 8, fun _ => (I 0 8)), (1, some 1, fun _ => (0 : Int32)), (1, some 2, fun _ => o27), (1, some 3, fun _ => o29), (1, some 4, fun _ => o25), (1, some 5, fun _ => o26), (1, some 6, fun _ => o28), (3, some 1, fun _ => o18), (4, some 1, fun _ => o24), (4, some 2, fun _ => o20), (4, some 3, fun _ => o21), (4, some 4, fun _ => o19), (4, some 5, fun _ => o22), (5, none, o23), (6, none, (I 6)), (19, some 0, fun _ => o17), (19, some 1, fun _ => o6), (19, some 3, fun _ => o3), (19, some 7, fun _ => o12), (19, some 9, fun _ => o10), (19, some 11, fun _ => o2), (19, some 12, fun _ => o1), (20, none, o13), (21, none, o14), (22, none, o16), (23, none, o11), (24, none, o9), (25, some 2, fun _ => o5), (27, none, o4), (28, some 2, fun _ => o8), (30, none, o7), (31, some 0, fun _ => o34), (31, some 1, fun _ => o36), (31, some 3, fun _ => o32), (32, none, o31), (33, none, o37), (34, none, o33), (35, none, o35), (36, some 2, fun _ => (I 36 2)), (36, some 3, fun _ => (I 36 3))]) (K' := [(19, some 2, fun _ => o15), (31, some 2, fun _ => o38)]) zco_67 rfl rfl rfl rfl rfl rfl rfl rfl ?_
        refine g_aload_n (pc' := 112)  hc rfl rfl rfl rfl ?_
        refine z_getR (pc' := 115)  hc rfl rfl rfl sh_0 rfl rfl ?_
        refine z_virt (as := []) (a := 36) (r := []) hc rfl rfl rfl rfl sh_36 rfl zco_1 rfl rfl rfl ?_
        refine ok_X0_clearActs_36 (zdp hd rfl) (zwp_mono (zwp_bind h) ?_)
        rintro o39 h
        refine z_po (pc' := 118) (st' := []) (v := none) (L' := [(0, some 2, fun _ => (-1 : Int32)), (0, some 8, fun _ => (I 0 8)), (1, some 1, fun _ => (0 : Int32)), (1, some 2, fun _ => o27), (1, some 3, fun _ => o29), (1, some 4, fun _ => o25), (1, some 5, fun _ => o26), (1, some 6, fun _ => o28), (3, some 1, fun _ => o18), (4, some 1, fun _ => o24), (4, some 2, fun _ => o20), (4, some 3, fun _ => o21), (4, some 4, fun _ => o19), (4, some 5, fun _ => o22), (5, none, o23), (6, none, (I 6)), (19, some 0, fun _ => o17), (19, some 1, fun _ => o6), (19, some 3, fun _ => o3), (19, some 7, fun _ => o12), (19, some 9, fun _ => o10), (19, some 11, fun _ => o2), (19, some 12, fun _ => o1), (20, none, o13), (21, none, o14), (22, none, o16), (23, none, o11), (24, none, o9), (25, some 2, fun _ => o5), (27, none, o4), (28, some 2, fun _ => o8), (30, none, o7), (31, some 0, fun _ => o34), (31, some 1, fun _ => o36), (31, some 3, fun _ => o32), (32, none, o31), (33, none, o37), (34, none, o33), (35, none, o35), (36, some 2, fun _ => o39), (36, some 3, fun _ => (I 36 3))]) (K' := [(19, some 2, fun _ => o15), (31, some 2, fun _ => o38)]) zco_1 rfl rfl rfl rfl rfl rfl rfl rfl ?_
        refine g_aload_n (pc' := 119)  hc rfl rfl rfl rfl ?_
        refine z_getR (pc' := 122)  hc rfl rfl rfl sh_0 rfl rfl ?_
        refine z_virt (as := []) (a := 36) (r := []) hc rfl rfl rfl rfl sh_36 rfl zco_2 rfl rfl rfl ?_
        refine ok_X0_clearNotes_36 (zdp hd rfl) (zwp_mono (zwp_bind h) ?_)
        rintro o40 h
        refine z_po (pc' := 125) (st' := []) (v := none) (L' := [(0, some 2, fun _ => (-1 : Int32)), (0, some 8, fun _ => (I 0 8)), (1, some 1, fun _ => (0 : Int32)), (1, some 2, fun _ => o27), (1, some 3, fun _ => o29), (1, some 4, fun _ => o25), (1, some 5, fun _ => o26), (1, some 6, fun _ => o28), (3, some 1, fun _ => o18), (4, some 1, fun _ => o24), (4, some 2, fun _ => o20), (4, some 3, fun _ => o21), (4, some 4, fun _ => o19), (4, some 5, fun _ => o22), (5, none, o23), (6, none, (I 6)), (19, some 0, fun _ => o17), (19, some 1, fun _ => o6), (19, some 3, fun _ => o3), (19, some 7, fun _ => o12), (19, some 9, fun _ => o10), (19, some 11, fun _ => o2), (19, some 12, fun _ => o1), (20, none, o13), (21, none, o14), (22, none, o16), (23, none, o11), (24, none, o9), (25, some 2, fun _ => o5), (27, none, o4), (28, some 2, fun _ => o8), (30, none, o7), (31, some 0, fun _ => o34), (31, some 1, fun _ => o36), (31, some 3, fun _ => o32), (32, none, o31), (33, none, o37), (34, none, o33), (35, none, o35), (36, some 2, fun _ => o39), (36, some 3, fun _ => o40)]) (K' := [(19, some 2, fun _ => o15), (31, some 2, fun _ => o38)]) zco_2 rfl rfl rfl rfl rfl rfl rfl rfl ?_
        refine g_aload_n (pc' := 126)  hc rfl rfl rfl rfl ?_
        refine g_iconst (pc' := 127) (v := (0 : Int32)) hc rfl zki_0 rfl ?_
        refine z_putI (pc' := 130) (L' := [(0, some 2, fun _ => (-1 : Int32)), (0, some 8, fun _ => (0 : Int32)), (1, some 1, fun _ => (0 : Int32)), (1, some 2, fun _ => o27), (1, some 3, fun _ => o29), (1, some 4, fun _ => o25), (1, some 5, fun _ => o26), (1, some 6, fun _ => o28), (3, some 1, fun _ => o18), (4, some 1, fun _ => o24), (4, some 2, fun _ => o20), (4, some 3, fun _ => o21), (4, some 4, fun _ => o19), (4, some 5, fun _ => o22), (5, none, o23), (6, none, (I 6)), (19, some 0, fun _ => o17), (19, some 1, fun _ => o6), (19, some 3, fun _ => o3), (19, some 7, fun _ => o12), (19, some 9, fun _ => o10), (19, some 11, fun _ => o2), (19, some 12, fun _ => o1), (20, none, o13), (21, none, o14), (22, none, o16), (23, none, o11), (24, none, o9), (25, some 2, fun _ => o5), (27, none, o4), (28, some 2, fun _ => o8), (30, none, o7), (31, some 0, fun _ => o34), (31, some 1, fun _ => o36), (31, some 3, fun _ => o32), (32, none, o31), (33, none, o37), (34, none, o33), (35, none, o35), (36, some 2, fun _ => o39), (36, some 3, fun _ => o40)]) hc rfl rfl rfl sh_0 rfl zft_11_8 rfl (fun h => Bool.noConfusion h) rfl rfl rfl ?_
        refine g_iconst (pc' := 131) (v := (0 : Int32)) hc rfl zki_0 rfl ?_
        replace h := zws h
        exact g_ireturn hc rfl rfl rfl (fun _ => ⟨rfl, rfl⟩) h
      · replace h := zwp_f h hx
        refine g_aload_n (pc' := 55)  hc rfl rfl rfl rfl ?_
        refine g_aload_n (pc' := 56)  hc rfl rfl rfl rfl ?_
        refine z_getR (pc' := 59)  hc rfl rfl rfl sh_0 rfl rfl ?_
        refine z_getI (pc' := 62) (v := o29) hc rfl rfl rfl sh_1 rfl rfl rfl ?_
        refine z_putI (pc' := 65) (L' := [(0, some 2, fun _ => o29), (0, some 8, fun _ => (I 0 8)), (1, some 1, fun _ => (0 : Int32)), (1, some 2, fun _ => o27), (1, some 3, fun _ => o29), (1, some 4, fun _ => o25), (1, some 5, fun _ => o26), (1, some 6, fun _ => o28), (3, some 1, fun _ => o18), (4, some 1, fun _ => o24), (4, some 2, fun _ => o20), (4, some 3, fun _ => o21), (4, some 4, fun _ => o19), (4, some 5, fun _ => o22), (5, none, o23), (6, none, (I 6)), (19, some 0, fun _ => o17), (19, some 1, fun _ => o6), (19, some 3, fun _ => o3), (19, some 7, fun _ => o12), (19, some 9, fun _ => o10), (19, some 11, fun _ => o2), (19, some 12, fun _ => o1), (20, none, o13), (21, none, o14), (22, none, o16), (23, none, o11), (24, none, o9), (25, some 2, fun _ => o5), (27, none, o4), (28, some 2, fun _ => o8), (30, none, o7), (31, some 0, fun _ => (I 31 0)), (31, some 1, fun _ => (I 31 1)), (31, some 3, fun _ => (I 31 3)), (32, none, (I 32)), (33, none, (I 33)), (34, none, (I 34)), (35, none, (I 35)), (36, some 2, fun _ => (I 36 2)), (36, some 3, fun _ => (I 36 3))]) hc rfl rfl rfl sh_0 rfl zft_11_2 rfl (fun h => Bool.noConfusion h) rfl rfl rfl ?_
        refine g_aload_n (pc' := 66)  hc rfl rfl rfl rfl ?_
        refine z_getR (pc' := 69)  hc rfl rfl rfl sh_0 rfl rfl ?_
        refine g_iconst (pc' := 70) (v := (0 : Int32)) hc rfl zki_0 rfl ?_
        refine g_dup2 (pc' := 71)  hc rfl rfl rfl rfl ?_
        refine z_iaload (pc' := 72) (v := (((I 6)) 0)) hc rfl rfl sh_6 (by decide) rfl rfl ?_
        refine g_iconst (pc' := 73) (v := (1 : Int32)) hc rfl zki_1 rfl ?_
        refine g_iadd (pc' := 74)  hc rfl rfl ?_
        refine z_iastore (pc' := 75) (g := (I 6)) (L' := [(0, some 2, fun _ => o29), (0, some 8, fun _ => (I 0 8)), (1, some 1, fun _ => (0 : Int32)), (1, some 2, fun _ => o27), (1, some 3, fun _ => o29), (1, some 4, fun _ => o25), (1, some 5, fun _ => o26), (1, some 6, fun _ => o28), (3, some 1, fun _ => o18), (4, some 1, fun _ => o24), (4, some 2, fun _ => o20), (4, some 3, fun _ => o21), (4, some 4, fun _ => o19), (4, some 5, fun _ => o22), (5, none, o23), (6, none, (upd ((I 6)) 0 ((((I 6)) 0) + (1 : Int32)))), (19, some 0, fun _ => o17), (19, some 1, fun _ => o6), (19, some 3, fun _ => o3), (19, some 7, fun _ => o12), (19, some 9, fun _ => o10), (19, some 11, fun _ => o2), (19, some 12, fun _ => o1), (20, none, o13), (21, none, o14), (22, none, o16), (23, none, o11), (24, none, o9), (25, some 2, fun _ => o5), (27, none, o4), (28, some 2, fun _ => o8), (30, none, o7), (31, some 0, fun _ => (I 31 0)), (31, some 1, fun _ => (I 31 1)), (31, some 3, fun _ => (I 31 3)), (32, none, (I 32)), (33, none, (I 33)), (34, none, (I 34)), (35, none, (I 35)), (36, some 2, fun _ => (I 36 2)), (36, some 3, fun _ => (I 36 3))]) hc rfl rfl sh_6 (by decide) rfl rfl rfl rfl ?_
        refine g_iload_n (pc' := 76)  hc rfl rfl rfl ?_
        replace h := zws h
        exact g_ireturn hc rfl rfl rfl (fun _ => ⟨rfl, rfl⟩) h
    · replace h := zwp_f h hx
      replace h := zws h
      exact z_throw hc rfl rfl (zdq hd rfl) rfl rfl rfl h
set_option maxHeartbeats 20000000 in
set_option maxRecDepth 4000 in
theorem ok_L_town_0_107_p {I : pI} {J : pJ} {a1 : Int32} {Q : pQ} {d : Nat} (hd : 14 ≤ d) (h : zwp (f_L_town a1 1 (J 107) (I 36 2) (I 36 3) (I 0 2) (I 0 8) (I 32) (I 31 3) (I 34) (I 31 0) (I 35) (I 31 1) (I 33) (J 31 2) (I 3 1) (I 4 4) (I 4 2) (I 4 3) (I 4 5) (I 5) (I 4 1) (I 6) (I 19 12) (I 19 11) (I 19 3) (I 27) (I 25 2) (I 19 1) (I 30) (I 28 2) (I 24) (I 19 9) (I 23) (I 19 7) (I 20) (I 21) (J 19 2) (I 22) (I 19 0) (I 2) (I 1 4) (I 1 5) (I 1 2) (I 1 6) (I 1 3) (I 1 1)) (fun w => match w with | (r, sw, o0, o1, o2, o3, o4, o5, o6, o7, o8, o9, o10, o11, o12, o13, o14, o15, o16, o17, o18, o19, o20, o21, o22, o23, o24, o25, o26, o27, o28, o29, o30, o31, o32, o33, o34, o35, o36, o37, o38, o39, o40, o41, o42, o43) => Q (.inl (some (.int r))) (zS (cond sw 19 7) (cond sw 7 19) I [(0, some 2, fun _ => o3), (0, some 8, fun _ => o4), (1, some 1, fun _ => o43), (1, some 2, fun _ => o40), (1, some 3, fun _ => o42), (1, some 4, fun _ => o38), (1, some 5, fun _ => o39), (1, some 6, fun _ => o41), (3, some 1, fun _ => o13), (4, some 1, fun _ => o19), (4, some 2, fun _ => o15), (4, some 3, fun _ => o16), (4, some 4, fun _ => o14), (4, some 5, fun _ => o17), (5, none, o18), (6, none, o20), (19, some 0, fun _ => o37), (19, some 1, fun _ => o26), (19, some 3, fun _ => o23), (19, some 7, fun _ => o32), (19, some 9, fun _ => o30), (19, some 11, fun _ => o22), (19, some 12, fun _ => o21), (20, none, o33), (21, none, o34), (22, none, o36), (23, none, o31), (24, none, o29), (25, some 2, fun _ => o25), (27, none, o24), (28, some 2, fun _ => o28), (30, none, o27), (31, some 0, fun _ => o8), (31, some 1, fun _ => o10), (31, some 3, fun _ => o6), (32, none, o5), (33, none, o11), (34, none, o7), (35, none, o9), (36, some 2, fun _ => o1), (36, some 3, fun _ => o2)] J [(19, some 2, fun _ => o35), (31, some 2, fun _ => o12), (107, none, o0)]))) : pm_call M cost zext d 272 [.ref 0, .int a1, .ref 107] (pm_st 108 (shp 7 19) I J) Q := by
  obtain ⟨d, rfl⟩ := zd1 hd rfl
  have hc := pm_call_m (M := M) (cost := cost) zext_m d
  refine z_in (L := [(0, some 2, fun _ => (I 0 2)), (0, some 8, fun _ => (I 0 8)), (1, some 1, fun _ => (I 1 1)), (1, some 2, fun _ => (I 1 2)), (1, some 3, fun _ => (I 1 3)), (1, some 4, fun _ => (I 1 4)), (1, some 5, fun _ => (I 1 5)), (1, some 6, fun _ => (I 1 6)), (3, some 1, fun _ => (I 3 1)), (4, some 1, fun _ => (I 4 1)), (4, some 2, fun _ => (I 4 2)), (4, some 3, fun _ => (I 4 3)), (4, some 4, fun _ => (I 4 4)), (4, some 5, fun _ => (I 4 5)), (5, none, (I 5)), (6, none, (I 6)), (19, some 0, fun _ => (I 19 0)), (19, some 1, fun _ => (I 19 1)), (19, some 3, fun _ => (I 19 3)), (19, some 7, fun _ => (I 19 7)), (19, some 9, fun _ => (I 19 9)), (19, some 11, fun _ => (I 19 11)), (19, some 12, fun _ => (I 19 12)), (20, none, (I 20)), (21, none, (I 21)), (22, none, (I 22)), (23, none, (I 23)), (24, none, (I 24)), (25, some 2, fun _ => (I 25 2)), (27, none, (I 27)), (28, some 2, fun _ => (I 28 2)), (30, none, (I 30)), (31, some 0, fun _ => (I 31 0)), (31, some 1, fun _ => (I 31 1)), (31, some 3, fun _ => (I 31 3)), (32, none, (I 32)), (33, none, (I 33)), (34, none, (I 34)), (35, none, (I 35)), (36, some 2, fun _ => (I 36 2)), (36, some 3, fun _ => (I 36 3))]) (K := [(19, some 2, fun _ => (J 19 2)), (31, some 2, fun _ => (J 31 2)), (107, none, (J 107))]) (ls := [some (.ref 0), some (.int a1), some (.ref 107), none]) zmt_272 zco_272 rfl rfl (zid_s (zid_s (zid_s (zid_s (zid_s (zid_s (zid_s (zid_s (zid_s (zid_s (zid_s (zid_s (zid_s (zid_s (zid_a (zid_a (zid_s (zid_s (zid_s (zid_s (zid_s (zid_s (zid_s (zid_a (zid_a (zid_a (zid_a (zid_a (zid_s (zid_a (zid_s (zid_a (zid_s (zid_s (zid_s (zid_a (zid_a (zid_a (zid_a (zid_s (zid_s zid_n))))))))))))))))))))))))))))))))))))))))) (zid_s (zid_s (zid_a zid_n))) ?_
  delta f_L_town at h
  refine g_aload_n (pc' := 1)  hc rfl rfl rfl rfl ?_
  refine g_iconst (pc' := 2) (v := (0 : Int32)) hc rfl zki_0 rfl ?_
  refine g_aload_n (pc' := 3)  hc rfl rfl rfl rfl ?_
  refine g_iload_n (pc' := 4)  hc rfl rfl rfl ?_
  refine z_virt (as := [.int a1]) (a := 0) (r := [.int (0 : Int32), .ref 107]) hc rfl rfl rfl rfl sh_0 rfl zco_98 rfl rfl rfl ?_
  refine ok_X11_town_0_p (zdp hd rfl) (zwp_mono (zwp_bind h) ?_)
  rintro ⟨(r44 | E45), sw, o1, o2, o3, o4, o5, o6, o7, o8, o9, o10, o11, o12, o13, o14, o15, o16, o17, o18, o19, o20, o21, o22, o23, o24, o25, o26, o27, o28, o29, o30, o31, o32, o33, o34, o35, o36, o37, o38, o39, o40, o41, o42, o43⟩ h
  · refine z_po (pc' := 7) (st' := [.int r44, .int (0 : Int32), .ref 107]) (v := (some (.int r44))) (L' := [(0, some 2, fun _ => o3), (0, some 8, fun _ => o4), (1, some 1, fun _ => o43), (1, some 2, fun _ => o40), (1, some 3, fun _ => o42), (1, some 4, fun _ => o38), (1, some 5, fun _ => o39), (1, some 6, fun _ => o41), (3, some 1, fun _ => o13), (4, some 1, fun _ => o19), (4, some 2, fun _ => o15), (4, some 3, fun _ => o16), (4, some 4, fun _ => o14), (4, some 5, fun _ => o17), (5, none, o18), (6, none, o20), (19, some 0, fun _ => o37), (19, some 1, fun _ => o26), (19, some 3, fun _ => o23), (19, some 7, fun _ => o32), (19, some 9, fun _ => o30), (19, some 11, fun _ => o22), (19, some 12, fun _ => o21), (20, none, o33), (21, none, o34), (22, none, o36), (23, none, o31), (24, none, o29), (25, some 2, fun _ => o25), (27, none, o24), (28, some 2, fun _ => o28), (30, none, o27), (31, some 0, fun _ => o8), (31, some 1, fun _ => o10), (31, some 3, fun _ => o6), (32, none, o5), (33, none, o11), (34, none, o7), (35, none, o9), (36, some 2, fun _ => o1), (36, some 3, fun _ => o2)]) (K' := [(19, some 2, fun _ => o35), (31, some 2, fun _ => o12), (107, none, (J 107))]) zco_98 rfl rfl rfl rfl rfl rfl rfl rfl ?_
    refine g_i2l (pc' := 8)  hc rfl rfl ?_
    have hb := (zwp_bnd h).1
    replace h := (zwp_bnd h).2
    refine z_lastore (pc' := 9) (g := (J 107)) (K' := [(19, some 2, fun _ => o35), (31, some 2, fun _ => o12), (107, none, (vp_updL ((J 107)) (0 : Int32).toNatClampNeg r44.toInt64))]) hc rfl rfl sh_107 hb rfl rfl rfl rfl ?_
    refine g_goto hc rfl ?_
    refine g_iconst (pc' := 16) (v := (0 : Int32)) hc rfl zki_0 rfl ?_
    replace h := zws h
    exact g_ireturn hc rfl rfl rfl (fun _ => ⟨rfl, rfl⟩) h
  · by_cases hE : E45 = x_I
    · replace h := zwp_t h hE
      replace h := zws h
      exact z_poh (L' := [(0, some 2, fun _ => o3), (0, some 8, fun _ => o4), (1, some 1, fun _ => o43), (1, some 2, fun _ => o40), (1, some 3, fun _ => o42), (1, some 4, fun _ => o38), (1, some 5, fun _ => o39), (1, some 6, fun _ => o41), (3, some 1, fun _ => o13), (4, some 1, fun _ => o19), (4, some 2, fun _ => o15), (4, some 3, fun _ => o16), (4, some 4, fun _ => o14), (4, some 5, fun _ => o17), (5, none, o18), (6, none, o20), (19, some 0, fun _ => o37), (19, some 1, fun _ => o26), (19, some 3, fun _ => o23), (19, some 7, fun _ => o32), (19, some 9, fun _ => o30), (19, some 11, fun _ => o22), (19, some 12, fun _ => o21), (20, none, o33), (21, none, o34), (22, none, o36), (23, none, o31), (24, none, o29), (25, some 2, fun _ => o25), (27, none, o24), (28, some 2, fun _ => o28), (30, none, o27), (31, some 0, fun _ => o8), (31, some 1, fun _ => o10), (31, some 3, fun _ => o6), (32, none, o5), (33, none, o11), (34, none, o7), (35, none, o9), (36, some 2, fun _ => o1), (36, some 3, fun _ => o2)]) (K' := [(19, some 2, fun _ => o35), (31, some 2, fun _ => o12), (107, none, (J 107))]) (zhd1 (e := 9) (pc := 4) rfl hE) rfl rfl rfl rfl rfl rfl rfl rfl h
    replace h := zwp_f h hE
    exact (zwn h).elim
set_option maxRecDepth 4000 in
theorem ok_X8_heldBits_31 {p q : Nat} {I : pI} {J : pJ} {Q : pQ} {d : Nat} (hd : 1 ≤ d) (h : zwp (f_X8_heldBits (I 31 3) (I 34)) (fun r => Q (.inl (some (.int r))) (zS p q I [] J []))) : pm_call M cost zext d 79 [.ref 31] (pm_st 108 (shp p q) I J) Q := by
  obtain ⟨d, rfl⟩ := zd1 hd rfl
  have hc := pm_call_m (M := M) (cost := cost) zext_m d
  refine z_in (L := []) (K := []) (ls := [some (.ref 31), none, none]) zmt_79 zco_79 rfl rfl zid_n zid_n ?_
  delta f_X8_heldBits at h
  refine g_iconst (pc' := 1) (v := (0 : Int32)) hc rfl zki_0 rfl ?_
  refine g_istore_n (pc' := 2) (ls1 := [some (.ref 31), some (.int (0 : Int32)), none]) hc rfl (zlt rfl) rfl rfl ?_
  refine g_iconst (pc' := 3) (v := (0 : Int32)) hc rfl zki_0 rfl ?_
  refine g_istore_n (pc' := 4) (ls1 := [some (.ref 31), some (.int (0 : Int32)), some (.int (0 : Int32))]) hc rfl (zlt rfl) rfl rfl ?_
  refine zjn (G := (fun (y3 : Int32) => ∀ z4 : Option Value, znl z4 = true → pm_ev C_X8_heldBits (d + 1) (pm_call M cost zext d) cost (false, false) 108 0 0 Q 33 [some (.ref 31), some (.int y3), z4] [] 0 0 (zS p q I [] J []))) (zwp_bind h) ?_ (fun h => ?_)
  · rintro y3 h z4 hz4
    refine g_iload_n (pc' := 34)  hc rfl rfl rfl ?_
    replace h := zws h
    exact g_ireturn hc rfl rfl rfl (fun _ => ⟨rfl, rfl⟩) h
  refine zitr_ev (G := (fun (g : Int32 × Int32) => match g with | (x1, x2) => pm_ev C_X8_heldBits (d + 1) (pm_call M cost zext d) cost (false, false) 108 0 0 Q 4 [some (.ref 31), some (.int x1), some (.int x2)] [] 0 0 (zS p q I [] J []))) ?_ zFU ((0 : Int32), (0 : Int32)) h
  rintro ⟨x1, x2⟩ h
  refine g_iload_n (pc' := 5)  hc rfl rfl rfl ?_
  refine g_aload_n (pc' := 6)  hc rfl rfl rfl rfl ?_
  refine z_getI (pc' := 9) (v := (I 31 3)) hc rfl rfl rfl sh_31 rfl rfl rfl ?_
  refine g_icmp_ge (pc' := 12) hc rfl rfl (fun hx => ?_) (fun hx => ?_)
  · replace h := zwp_t h hx
    replace h := zwp_r h
    exact h (some (.int x2)) rfl
  · replace h := zwp_f h hx
    refine g_aload_n (pc' := 13)  hc rfl rfl rfl rfl ?_
    refine z_getR (pc' := 16)  hc rfl rfl rfl sh_31 rfl rfl ?_
    refine g_iload_n (pc' := 17)  hc rfl rfl rfl ?_
    have hb := (zwp_bnd h).1
    replace h := (zwp_bnd h).2
    refine z_iaload (pc' := 18) (v := (((I 34)) x2.toNatClampNeg)) hc rfl rfl sh_34 hb rfl rfl ?_
    refine g_if_le (pc' := 21) hc rfl rfl (fun hx => ?_) (fun hx => ?_)
    · replace h := zwp_t h hx
      refine g_iinc (pc' := 30) (ls1 := [some (.ref 31), some (.int x1), some (.int (x2 + (1 : Int32)))]) hc rfl rfl zki_1 (zlt rfl) rfl rfl ?_
      refine g_goto hc rfl ?_
      replace h := zwp_l h
      exact h
    · replace h := zwp_f h hx
      refine g_iload_n (pc' := 22)  hc rfl rfl rfl ?_
      refine g_iconst (pc' := 23) (v := (1 : Int32)) hc rfl zki_1 rfl ?_
      refine g_iload_n (pc' := 24)  hc rfl rfl rfl ?_
      refine g_ishl (pc' := 25)  hc rfl rfl ?_
      refine g_ior (pc' := 26)  hc rfl rfl ?_
      refine g_istore_n (pc' := 27) (ls1 := [some (.ref 31), some (.int (x1 ||| ((1 : Int32) <<< (x2 &&& 31)))), some (.int x2)]) hc rfl (zlt rfl) rfl rfl ?_
      refine g_iinc (pc' := 30) (ls1 := [some (.ref 31), some (.int (x1 ||| ((1 : Int32) <<< (x2 &&& 31)))), some (.int (x2 + (1 : Int32)))]) hc rfl rfl zki_1 (zlt rfl) rfl rfl ?_
      refine g_goto hc rfl ?_
      replace h := zwp_l h
      exact h
set_option maxRecDepth 4000 in
theorem ok_X8_soreOfAll_31 {p q : Nat} {I : pI} {J : pJ} {Q : pQ} {d : Nat} (hd : 1 ≤ d) (h : zwp (f_X8_soreOfAll (I 31 3) (I 33)) (fun r => Q (.inl (some (.int r))) (zS p q I [] J []))) : pm_call M cost zext d 78 [.ref 31] (pm_st 108 (shp p q) I J) Q := by
  obtain ⟨d, rfl⟩ := zd1 hd rfl
  have hc := pm_call_m (M := M) (cost := cost) zext_m d
  refine z_in (L := []) (K := []) (ls := [some (.ref 31), none, none]) zmt_78 zco_78 rfl rfl zid_n zid_n ?_
  delta f_X8_soreOfAll at h
  refine g_iconst (pc' := 1) (v := (0 : Int32)) hc rfl zki_0 rfl ?_
  refine g_istore_n (pc' := 2) (ls1 := [some (.ref 31), some (.int (0 : Int32)), none]) hc rfl (zlt rfl) rfl rfl ?_
  refine g_iconst (pc' := 3) (v := (0 : Int32)) hc rfl zki_0 rfl ?_
  refine g_istore_n (pc' := 4) (ls1 := [some (.ref 31), some (.int (0 : Int32)), some (.int (0 : Int32))]) hc rfl (zlt rfl) rfl rfl ?_
  refine zjn (G := (fun (y3 : Int32) => ∀ z4 : Option Value, znl z4 = true → pm_ev C_X8_soreOfAll (d + 1) (pm_call M cost zext d) cost (false, false) 108 0 0 Q 27 [some (.ref 31), some (.int y3), z4] [] 0 0 (zS p q I [] J []))) (zwp_bind h) ?_ (fun h => ?_)
  · rintro y3 h z4 hz4
    refine g_iload_n (pc' := 28)  hc rfl rfl rfl ?_
    replace h := zws h
    exact g_ireturn hc rfl rfl rfl (fun _ => ⟨rfl, rfl⟩) h
  refine zitr_ev (G := (fun (g : Int32 × Int32) => match g with | (x1, x2) => pm_ev C_X8_soreOfAll (d + 1) (pm_call M cost zext d) cost (false, false) 108 0 0 Q 4 [some (.ref 31), some (.int x1), some (.int x2)] [] 0 0 (zS p q I [] J []))) ?_ zFU ((0 : Int32), (0 : Int32)) h
  rintro ⟨x1, x2⟩ h
  refine g_iload_n (pc' := 5)  hc rfl rfl rfl ?_
  refine g_aload_n (pc' := 6)  hc rfl rfl rfl rfl ?_
  refine z_getI (pc' := 9) (v := (I 31 3)) hc rfl rfl rfl sh_31 rfl rfl rfl ?_
  refine g_icmp_ge (pc' := 12) hc rfl rfl (fun hx => ?_) (fun hx => ?_)
  · replace h := zwp_t h hx
    replace h := zwp_r h
    exact h (some (.int x2)) rfl
  · replace h := zwp_f h hx
    refine g_iload_n (pc' := 13)  hc rfl rfl rfl ?_
    refine g_aload_n (pc' := 14)  hc rfl rfl rfl rfl ?_
    refine z_getR (pc' := 17)  hc rfl rfl rfl sh_31 rfl rfl ?_
    refine g_iload_n (pc' := 18)  hc rfl rfl rfl ?_
    have hb := (zwp_bnd h).1
    replace h := (zwp_bnd h).2
    refine z_iaload (pc' := 19) (v := (((I 33)) x2.toNatClampNeg)) hc rfl rfl sh_33 hb rfl rfl ?_
    refine g_iadd (pc' := 20)  hc rfl rfl ?_
    refine g_istore_n (pc' := 21) (ls1 := [some (.ref 31), some (.int (x1 + (((I 33)) x2.toNatClampNeg))), some (.int x2)]) hc rfl (zlt rfl) rfl rfl ?_
    refine g_iinc (pc' := 24) (ls1 := [some (.ref 31), some (.int (x1 + (((I 33)) x2.toNatClampNeg))), some (.int (x2 + (1 : Int32)))]) hc rfl rfl zki_1 (zlt rfl) rfl rfl ?_
    refine g_goto hc rfl ?_
    replace h := zwp_l h
    exact h
set_option maxRecDepth 4000 in
theorem ok_J7_fill_53178_59 {p q : Nat} {I : pI} {J : pJ} {a1 : Int32} {Q : pQ} {d : Nat} (hd : 1 ≤ d) (h : zwp (f_J7_fill_53178 a1 36 (I 59)) (fun o0 => Q (.inl none) (zS p q I [(59, none, o0)] J []))) : pm_call M cost zext d 268 [.ref 59, .int a1] (pm_st 108 (shp p q) I J) Q := by
  obtain ⟨d, rfl⟩ := zd1 hd rfl
  have hc := pm_call_m (M := M) (cost := cost) zext_m d
  refine z_in (L := [(59, none, (I 59))]) (K := []) (ls := [some (.ref 59), some (.int a1), none, none]) zmt_268 zco_268 rfl rfl (zid_a zid_n) zid_n ?_
  delta f_J7_fill_53178 at h
  refine g_iconst (pc' := 1) (v := (0 : Int32)) hc rfl zki_0 rfl ?_
  refine g_istore_n (pc' := 2) (ls1 := [some (.ref 59), some (.int a1), some (.int (0 : Int32)), none]) hc rfl (zlt rfl) rfl rfl ?_
  refine g_aload_n (pc' := 3)  hc rfl rfl rfl rfl ?_
  refine z_alen (pc' := 4) (v := (Int32.ofNat 36)) hc rfl rfl sh_59 ⟨by decide, by decide⟩ rfl rfl ?_
  refine g_istore_n (pc' := 5) (ls1 := [some (.ref 59), some (.int a1), some (.int (0 : Int32)), some (.int (Int32.ofNat 36))]) hc rfl (zlt rfl) rfl rfl ?_
  refine zjn (G := (fun (y4 : (Nat → Int32)) => ∀ z3 : Option Value, znl z3 = true → pm_ev C_J7_fill_53178 (d + 1) (pm_call M cost zext d) cost (false, false) 108 0 0 Q 20 [some (.ref 59), some (.int a1), z3, some (.int (Int32.ofNat 36))] [] 0 0 (zS p q I [(59, none, y4)] J []))) (zwp_bind h) ?_ (fun h => ?_)
  · rintro y4 h z3 hz3
    replace h := zws h
    exact g_return hc rfl rfl (fun _ => ⟨rfl, rfl⟩) h
  refine zitr_ev (G := (fun (g : Int32 × (Nat → Int32)) => match g with | (x1, x2) => pm_ev C_J7_fill_53178 (d + 1) (pm_call M cost zext d) cost (false, false) 108 0 0 Q 5 [some (.ref 59), some (.int a1), some (.int x1), some (.int (Int32.ofNat 36))] [] 0 0 (zS p q I [(59, none, x2)] J []))) ?_ zFU ((0 : Int32), (I 59)) h
  rintro ⟨x1, x2⟩ h
  refine g_iload_n (pc' := 6)  hc rfl rfl rfl ?_
  refine g_iload_n (pc' := 7)  hc rfl rfl rfl ?_
  refine g_icmp_ge (pc' := 10) hc rfl rfl (fun hx => ?_) (fun hx => ?_)
  · replace h := zwp_t h hx
    replace h := zwp_r h
    exact h (some (.int x1)) rfl
  · replace h := zwp_f h hx
    refine g_aload_n (pc' := 11)  hc rfl rfl rfl rfl ?_
    refine g_iload_n (pc' := 12)  hc rfl rfl rfl ?_
    refine g_iload_n (pc' := 13)  hc rfl rfl rfl ?_
    have hb := (zwp_bnd h).1
    replace h := (zwp_bnd h).2
    refine z_iastore (pc' := 14) (g := x2) (L' := [(59, none, (upd x2 x1.toNatClampNeg a1))]) hc rfl rfl sh_59 hb rfl rfl rfl rfl ?_
    refine g_iinc (pc' := 17) (ls1 := [some (.ref 59), some (.int a1), some (.int (x1 + (1 : Int32))), some (.int (Int32.ofNat 36))]) hc rfl rfl zki_1 (zlt rfl) rfl rfl ?_
    refine g_goto hc rfl ?_
    replace h := zwp_l h
    exact h
set_option maxRecDepth 4000 in
theorem ok_X10_measure_58_7_31 {p q : Nat} {I : pI} {J : pJ} {a3 : Int32} {Q : pQ} {d : Nat} (hd : 3 ≤ d) (h : zwp (f_X10_measure a3 (I 59) (I 7 1) (I 7 0) (I 60) (J 31 2)) (fun w => match w with | (o0, o1) => Q (.inl none) (zS p q I [(59, none, o0), (60, none, o1)] J []))) : pm_call M cost zext d 92 [.ref 58, .ref 7, .ref 31, .int a3] (pm_st 108 (shp p q) I J) Q := by
  obtain ⟨d, rfl⟩ := zd1 hd rfl
  have hc := pm_call_m (M := M) (cost := cost) zext_m d
  refine z_in (L := [(59, none, (I 59)), (60, none, (I 60))]) (K := []) (ls := [some (.ref 58), some (.ref 7), some (.ref 31), some (.int a3), none, none, none, none, none]) zmt_92 zco_92 rfl rfl (zid_a (zid_a zid_n)) zid_n ?_
  delta f_X10_measure at h
  refine g_aload_n (pc' := 1)  hc rfl rfl rfl rfl ?_
  refine z_getR (pc' := 4)  hc rfl rfl rfl sh_58 rfl rfl ?_
  refine g_iconst (pc' := 5) (v := (-1 : Int32)) hc rfl zki_m1 rfl ?_
  refine z_stat (as := [.ref 59, .int (-1 : Int32)]) (r := []) hc rfl rfl rfl rfl zco_268 rfl rfl rfl ?_
  refine ok_J7_fill_53178_59 (zdp hd rfl) (zwp_mono (zwp_bind h) ?_)
  rintro o1 h
  refine z_po (pc' := 8) (st' := []) (v := none) (L' := [(59, none, o1), (60, none, (I 60))]) (K' := []) zco_268 rfl rfl rfl rfl rfl rfl rfl rfl ?_
  refine g_aload_n (pc' := 9)  hc rfl rfl rfl rfl ?_
  refine z_getR (pc' := 12)  hc rfl rfl rfl sh_58 rfl rfl ?_
  refine g_iload_n (pc' := 13)  hc rfl rfl rfl ?_
  refine g_iconst (pc' := 14) (v := (0 : Int32)) hc rfl zki_0 rfl ?_
  have hb := (zwp_bnd h).1
  replace h := (zwp_bnd h).2
  refine z_iastore (pc' := 15) (g := o1) (L' := [(59, none, (upd o1 a3.toNatClampNeg (0 : Int32))), (60, none, (I 60))]) hc rfl rfl sh_59 hb rfl rfl rfl rfl ?_
  refine g_aload_n (pc' := 16)  hc rfl rfl rfl rfl ?_
  refine z_getR (pc' := 19)  hc rfl rfl rfl sh_58 rfl rfl ?_
  refine g_iconst (pc' := 20) (v := (0 : Int32)) hc rfl zki_0 rfl ?_
  refine g_iload_n (pc' := 21)  hc rfl rfl rfl ?_
  refine z_iastore (pc' := 22) (g := (I 60)) (L' := [(59, none, (upd o1 a3.toNatClampNeg (0 : Int32))), (60, none, (upd ((I 60)) 0 a3))]) hc rfl rfl sh_60 (by decide) rfl rfl rfl rfl ?_
  refine g_aload_n (pc' := 23)  hc rfl rfl rfl rfl ?_
  refine g_iload_n (pc' := 24)  hc rfl rfl rfl ?_
  refine z_virt (as := [.int a3]) (a := 31) (r := []) hc rfl rfl rfl rfl sh_31 rfl zco_71 rfl rfl rfl ?_
  refine ok_X8_isWall_31 (zdp hd rfl) (zwp_mono (zwp_bind h) ?_)
  rintro r2 h
  refine z_po (pc' := 27) (st' := [.int r2]) (v := (some (.int r2))) (L' := [(59, none, (upd o1 a3.toNatClampNeg (0 : Int32))), (60, none, (upd ((I 60)) 0 a3))]) (K' := []) zco_71 rfl rfl rfl rfl rfl rfl rfl rfl ?_
  refine zjn (G := (fun (j3 : Int32) => pm_ev C_X10_measure (d + 1) (pm_call M cost zext d) cost (false, false) 108 0 0 Q 35 [some (.ref 58), some (.ref 7), some (.ref 31), some (.int a3), none, none, none, none, none] [.int j3] 0 0 (zS p q I [(59, none, (upd o1 a3.toNatClampNeg (0 : Int32))), (60, none, (upd ((I 60)) 0 a3))] J []))) (zwp_bind h) ?_ (fun h => ?_)
  · rintro j3 h
    refine g_istore (pc' := 37) (ls1 := [some (.ref 58), some (.ref 7), some (.ref 31), some (.int a3), some (.int j3), none, none, none, none]) hc rfl (zlt rfl) rfl rfl ?_
    refine g_iconst (pc' := 38) (v := (0 : Int32)) hc rfl zki_0 rfl ?_
    refine g_istore (pc' := 40) (ls1 := [some (.ref 58), some (.ref 7), some (.ref 31), some (.int a3), some (.int j3), some (.int (0 : Int32)), none, none, none]) hc rfl (zlt rfl) rfl rfl ?_
    refine zjn (G := (fun (g : (Nat → Int32) × (Nat → Int32)) => match g with | (y16, y17) => ∀ z11 : Option Value, znl z11 = true → ∀ z12 : Option Value, znl z12 = true → ∀ z13 : Option Value, znl z13 = true → ∀ z14 : Option Value, znl z14 = true → ∀ z15 : Option Value, znl z15 = true → pm_ev C_X10_measure (d + 1) (pm_call M cost zext d) cost (false, false) 108 0 0 Q 158 [some (.ref 58), some (.ref 7), some (.ref 31), some (.int a3), z11, z12, z13, z14, z15] [] 0 0 (zS p q I [(59, none, y16), (60, none, y17)] J []))) (zwp_bind h) ?_ (fun h => ?_)
    · rintro ⟨y16, y17⟩ h z11 hz11 z12 hz12 z13 hz13 z14 hz14 z15 hz15
      replace h := zws h
      exact g_return hc rfl rfl (fun _ => ⟨rfl, rfl⟩) h
    refine zitr_ev (G := (fun (g : Int32 × Int32 × (Nat → Int32) × (Nat → Int32)) => match g with | (x4, x5, x9, x10) => ∀ z6 : Option Value, znl z6 = true → ∀ z7 : Option Value, znl z7 = true → ∀ z8 : Option Value, znl z8 = true → pm_ev C_X10_measure (d + 1) (pm_call M cost zext d) cost (false, false) 108 0 0 Q 40 [some (.ref 58), some (.ref 7), some (.ref 31), some (.int a3), some (.int x4), some (.int x5), z6, z7, z8] [] 0 0 (zS p q I [(59, none, x9), (60, none, x10)] J []))) ?_ zFU (j3, (0 : Int32), (upd o1 a3.toNatClampNeg (0 : Int32)), (upd ((I 60)) 0 a3)) h none rfl none rfl none rfl
    rintro ⟨x4, x5, x9, x10⟩ h z6 hz6 z7 hz7 z8 hz8
    refine g_iload (pc' := 42)  hc rfl rfl rfl ?_
    refine g_iload (pc' := 44)  hc rfl rfl rfl ?_
    refine g_icmp_ge (pc' := 47) hc rfl rfl (fun hx => ?_) (fun hx => ?_)
    · replace h := zwp_t h hx
      replace h := zwp_r h
      exact h (some (.int x4)) rfl (some (.int x5)) rfl z6 hz6 z7 hz7 z8 hz8
    · replace h := zwp_f h hx
      refine g_iload (pc' := 49)  hc rfl rfl rfl ?_
      refine g_bipush (pc' := 51) (v := (36 : Int32)) hc rfl zkb_36 rfl ?_
      refine g_icmp_ge (pc' := 54) hc rfl rfl (fun hx => ?_) (fun hx => ?_)
      · replace h := zwp_t h hx
        replace h := zwp_r h
        exact h (some (.int x4)) rfl (some (.int x5)) rfl z6 hz6 z7 hz7 z8 hz8
      · replace h := zwp_f h hx
        refine g_aload_n (pc' := 55)  hc rfl rfl rfl rfl ?_
        refine z_getR (pc' := 58)  hc rfl rfl rfl sh_58 rfl rfl ?_
        refine g_iload (pc' := 60)  hc rfl rfl rfl ?_
        have hb := (zwp_bnd h).1
        replace h := (zwp_bnd h).2
        refine z_iaload (pc' := 61) (v := (x10 x5.toNatClampNeg)) hc rfl rfl sh_60 hb rfl rfl ?_
        refine g_istore (pc' := 63) (ls1 := [some (.ref 58), some (.ref 7), some (.ref 31), some (.int a3), some (.int x4), some (.int x5), some (.int (x10 x5.toNatClampNeg)), z7, z8]) hc rfl (zlt rfl) rfl rfl ?_
        refine g_iconst (pc' := 64) (v := (1 : Int32)) hc rfl zki_1 rfl ?_
        refine g_istore (pc' := 66) (ls1 := [some (.ref 58), some (.ref 7), some (.ref 31), some (.int a3), some (.int x4), some (.int x5), some (.int (x10 x5.toNatClampNeg)), some (.int (1 : Int32)), z8]) hc rfl (zlt rfl) rfl rfl ?_
        refine zjn (G := (fun (g : Int32 × (Nat → Int32) × (Nat → Int32)) => match g with | (y23, y26, y27) => ∀ z24 : Option Value, znl z24 = true → ∀ z25 : Option Value, znl z25 = true → pm_ev C_X10_measure (d + 1) (pm_call M cost zext d) cost (false, false) 108 0 0 Q 152 [some (.ref 58), some (.ref 7), some (.ref 31), some (.int a3), some (.int y23), some (.int x5), some (.int (x10 x5.toNatClampNeg)), z24, z25] [] 0 0 (zS p q I [(59, none, y26), (60, none, y27)] J []))) (zwp_bind h) ?_ (fun h => ?_)
        · rintro ⟨y23, y26, y27⟩ h z24 hz24 z25 hz25
          refine g_iinc (pc' := 155) (ls1 := [some (.ref 58), some (.ref 7), some (.ref 31), some (.int a3), some (.int y23), some (.int (x5 + (1 : Int32))), some (.int (x10 x5.toNatClampNeg)), z24, z25]) hc rfl rfl zki_1 (zlt rfl) rfl rfl ?_
          refine g_goto hc rfl ?_
          replace h := zwp_l h
          exact h (some (.int (x10 x5.toNatClampNeg))) rfl z24 hz24 z25 hz25
        refine zitr_ev (G := (fun (g : Int32 × Int32 × (Nat → Int32) × (Nat → Int32)) => match g with | (x18, x19, x21, x22) => ∀ z20 : Option Value, znl z20 = true → pm_ev C_X10_measure (d + 1) (pm_call M cost zext d) cost (false, false) 108 0 0 Q 66 [some (.ref 58), some (.ref 7), some (.ref 31), some (.int a3), some (.int x18), some (.int x5), some (.int (x10 x5.toNatClampNeg)), some (.int x19), z20] [] 0 0 (zS p q I [(59, none, x21), (60, none, x22)] J []))) ?_ zFU (x4, (1 : Int32), x9, x10) h z8 hz8
        rintro ⟨x18, x19, x21, x22⟩ h z20 hz20
        refine g_iload (pc' := 68)  hc rfl rfl rfl ?_
        refine g_iconst (pc' := 69) (v := (4 : Int32)) hc rfl zki_4 rfl ?_
        refine g_icmp_gt (pc' := 72) hc rfl rfl (fun hx => ?_) (fun hx => ?_)
        · replace h := zwp_t h hx
          replace h := zwp_r h
          exact h (some (.int x19)) rfl z20 hz20
        · replace h := zwp_f h hx
          refine g_aload_n (pc' := 73)  hc rfl rfl rfl rfl ?_
          refine g_iload (pc' := 75)  hc rfl rfl rfl ?_
          refine g_iload (pc' := 77)  hc rfl rfl rfl ?_
          refine z_virt (as := [.int (x10 x5.toNatClampNeg), .int x19]) (a := 7) (r := []) hc rfl rfl rfl rfl sh_7 rfl zco_28 rfl rfl rfl ?_
          refine ok_X3_beside_7 (zdp hd rfl) (zwp_mono (zwp_bind h) ?_)
          rintro r28 h
          refine z_po (pc' := 80) (st' := [.int r28]) (v := (some (.int r28))) (L' := [(59, none, x21), (60, none, x22)]) (K' := []) zco_28 rfl rfl rfl rfl rfl rfl rfl rfl ?_
          refine g_istore (pc' := 82) (ls1 := [some (.ref 58), some (.ref 7), some (.ref 31), some (.int a3), some (.int x18), some (.int x5), some (.int (x10 x5.toNatClampNeg)), some (.int x19), some (.int r28)]) hc rfl (zlt rfl) rfl rfl ?_
          refine g_iload (pc' := 84)  hc rfl rfl rfl ?_
          refine g_iconst (pc' := 85) (v := (-1 : Int32)) hc rfl zki_m1 rfl ?_
          refine g_icmp_eq (pc' := 88) hc rfl rfl (fun hx => ?_) (fun hx => ?_)
          · replace h := zwp_t h hx
            refine g_iinc (pc' := 149) (ls1 := [some (.ref 58), some (.ref 7), some (.ref 31), some (.int a3), some (.int x18), some (.int x5), some (.int (x10 x5.toNatClampNeg)), some (.int (x19 + (1 : Int32))), some (.int r28)]) hc rfl rfl zki_1 (zlt rfl) rfl rfl ?_
            refine g_goto hc rfl ?_
            replace h := zwp_l h
            exact h (some (.int r28)) rfl
          · replace h := zwp_f h hx
            refine g_aload_n (pc' := 89)  hc rfl rfl rfl rfl ?_
            refine z_getR (pc' := 92)  hc rfl rfl rfl sh_58 rfl rfl ?_
            refine g_iload (pc' := 94)  hc rfl rfl rfl ?_
            have hb := (zwp_bnd h).1
            replace h := (zwp_bnd h).2
            refine z_iaload (pc' := 95) (v := (x21 r28.toNatClampNeg)) hc rfl rfl sh_59 hb rfl rfl ?_
            refine g_iconst (pc' := 96) (v := (-1 : Int32)) hc rfl zki_m1 rfl ?_
            refine g_icmp_eq (pc' := 99) hc rfl rfl (fun hx => ?_) (fun hx => ?_)
            · replace h := zwp_t h hx
              refine g_aload_n (pc' := 103)  hc rfl rfl rfl rfl ?_
              refine z_getR (pc' := 106)  hc rfl rfl rfl sh_58 rfl rfl ?_
              refine g_iload (pc' := 108)  hc rfl rfl rfl ?_
              refine g_aload_n (pc' := 109)  hc rfl rfl rfl rfl ?_
              refine z_getR (pc' := 112)  hc rfl rfl rfl sh_58 rfl rfl ?_
              refine g_iload (pc' := 114)  hc rfl rfl rfl ?_
              have hb := (zwp_bnd h).1
              replace h := (zwp_bnd h).2
              refine z_iaload (pc' := 115) (v := (x21 (x10 x5.toNatClampNeg).toNatClampNeg)) hc rfl rfl sh_59 hb rfl rfl ?_
              refine g_iconst (pc' := 116) (v := (1 : Int32)) hc rfl zki_1 rfl ?_
              refine g_iadd (pc' := 117)  hc rfl rfl ?_
              have hb := (zwp_bnd h).1
              replace h := (zwp_bnd h).2
              refine z_iastore (pc' := 118) (g := x21) (L' := [(59, none, (upd x21 r28.toNatClampNeg ((x21 (x10 x5.toNatClampNeg).toNatClampNeg) + (1 : Int32)))), (60, none, x22)]) hc rfl rfl sh_59 hb rfl rfl rfl rfl ?_
              refine g_aload_n (pc' := 119)  hc rfl rfl rfl rfl ?_
              refine g_iload (pc' := 121)  hc rfl rfl rfl ?_
              refine z_virt (as := [.int r28]) (a := 31) (r := []) hc rfl rfl rfl rfl sh_31 rfl zco_71 rfl rfl rfl ?_
              refine ok_X8_isWall_31 (zdp hd rfl) (zwp_mono (zwp_bind h) ?_)
              rintro r29 h
              refine z_po (pc' := 124) (st' := [.int r29]) (v := (some (.int r29))) (L' := [(59, none, (upd x21 r28.toNatClampNeg ((x21 (x10 x5.toNatClampNeg).toNatClampNeg) + (1 : Int32)))), (60, none, x22)]) (K' := []) zco_71 rfl rfl rfl rfl rfl rfl rfl rfl ?_
              refine g_if_ne (pc' := 127) hc rfl rfl (fun hx => ?_) (fun hx => ?_)
              · replace h := zwp_f h hx
                refine g_iinc (pc' := 149) (ls1 := [some (.ref 58), some (.ref 7), some (.ref 31), some (.int a3), some (.int x18), some (.int x5), some (.int (x10 x5.toNatClampNeg)), some (.int (x19 + (1 : Int32))), some (.int r28)]) hc rfl rfl zki_1 (zlt rfl) rfl rfl ?_
                refine g_goto hc rfl ?_
                replace h := zwp_l h
                exact h (some (.int r28)) rfl
              · replace h := zwp_t h hx
                refine g_iload (pc' := 129)  hc rfl rfl rfl ?_
                refine g_bipush (pc' := 131) (v := (36 : Int32)) hc rfl zkb_36 rfl ?_
                refine g_icmp_ge (pc' := 134) hc rfl rfl (fun hx => ?_) (fun hx => ?_)
                · replace h := zwp_t h hx
                  refine g_iinc (pc' := 149) (ls1 := [some (.ref 58), some (.ref 7), some (.ref 31), some (.int a3), some (.int x18), some (.int x5), some (.int (x10 x5.toNatClampNeg)), some (.int (x19 + (1 : Int32))), some (.int r28)]) hc rfl rfl zki_1 (zlt rfl) rfl rfl ?_
                  refine g_goto hc rfl ?_
                  replace h := zwp_l h
                  exact h (some (.int r28)) rfl
                · replace h := zwp_f h hx
                  refine g_aload_n (pc' := 135)  hc rfl rfl rfl rfl ?_
                  refine z_getR (pc' := 138)  hc rfl rfl rfl sh_58 rfl rfl ?_
                  refine g_iload (pc' := 140)  hc rfl rfl rfl ?_
                  refine g_iload (pc' := 142)  hc rfl rfl rfl ?_
                  have hb := (zwp_bnd h).1
                  replace h := (zwp_bnd h).2
                  refine z_iastore (pc' := 143) (g := x22) (L' := [(59, none, (upd x21 r28.toNatClampNeg ((x21 (x10 x5.toNatClampNeg).toNatClampNeg) + (1 : Int32)))), (60, none, (upd x22 x18.toNatClampNeg r28))]) hc rfl rfl sh_60 hb rfl rfl rfl rfl ?_
                  refine g_iinc (pc' := 146) (ls1 := [some (.ref 58), some (.ref 7), some (.ref 31), some (.int a3), some (.int (x18 + (1 : Int32))), some (.int x5), some (.int (x10 x5.toNatClampNeg)), some (.int x19), some (.int r28)]) hc rfl rfl zki_1 (zlt rfl) rfl rfl ?_
                  refine g_iinc (pc' := 149) (ls1 := [some (.ref 58), some (.ref 7), some (.ref 31), some (.int a3), some (.int (x18 + (1 : Int32))), some (.int x5), some (.int (x10 x5.toNatClampNeg)), some (.int (x19 + (1 : Int32))), some (.int r28)]) hc rfl rfl zki_1 (zlt rfl) rfl rfl ?_
                  refine g_goto hc rfl ?_
                  replace h := zwp_l h
                  exact h (some (.int r28)) rfl
            · replace h := zwp_f h hx
              refine g_goto hc rfl ?_
              refine g_iinc (pc' := 149) (ls1 := [some (.ref 58), some (.ref 7), some (.ref 31), some (.int a3), some (.int x18), some (.int x5), some (.int (x10 x5.toNatClampNeg)), some (.int (x19 + (1 : Int32))), some (.int r28)]) hc rfl rfl zki_1 (zlt rfl) rfl rfl ?_
              refine g_goto hc rfl ?_
              replace h := zwp_l h
              exact h (some (.int r28)) rfl
  refine g_if_eq (pc' := 30) hc rfl rfl (fun hx => ?_) (fun hx => ?_)
  · replace h := zwp_t h hx
    refine g_iconst (pc' := 35) (v := (1 : Int32)) hc rfl zki_1 rfl ?_
    replace h := zws h
    exact h
  · replace h := zwp_f h hx
    refine g_iconst (pc' := 31) (v := (0 : Int32)) hc rfl zki_0 rfl ?_
    refine g_goto hc rfl ?_
    replace h := zws h
    exact h
set_option maxRecDepth 4000 in
theorem ok_X10_parts_58_7_31 {p q : Nat} {I : pI} {J : pJ} {Q : pQ} {d : Nat} (hd : 4 ≤ d) (h : zwp (f_X10_parts (I 59) (I 7 1) (I 7 0) (I 60) (J 31 2)) (fun w => match w with | (r, o0, o1) => Q (.inl (some (.int r))) (zS p q I [(59, none, o0), (60, none, o1)] J []))) : pm_call M cost zext d 94 [.ref 58, .ref 7, .ref 31] (pm_st 108 (shp p q) I J) Q := by
  obtain ⟨d, rfl⟩ := zd1 hd rfl
  have hc := pm_call_m (M := M) (cost := cost) zext_m d
  refine z_in (L := [(59, none, (I 59)), (60, none, (I 60))]) (K := []) (ls := [some (.ref 58), some (.ref 7), some (.ref 31), none, none, none, none, none]) zmt_94 zco_94 rfl rfl (zid_a (zid_a zid_n)) zid_n ?_
  delta f_X10_parts at h
  refine g_aload_n (pc' := 1)  hc rfl rfl rfl rfl ?_
  refine z_getJ (pc' := 4) (v := (J 31 2)) hc rfl rfl rfl sh_31 rfl rfl rfl ?_
  refine g_lstore_n (pc' := 5) (ls1 := [some (.ref 58), some (.ref 7), some (.ref 31), some (.long (J 31 2)), none, none, none, none]) hc rfl (zlt rfl) rfl rfl ?_
  refine g_iconst (pc' := 6) (v := (0 : Int32)) hc rfl zki_0 rfl ?_
  refine g_istore (pc' := 8) (ls1 := [some (.ref 58), some (.ref 7), some (.ref 31), some (.long (J 31 2)), none, some (.int (0 : Int32)), none, none]) hc rfl (zlt rfl) rfl rfl ?_
  refine g_iconst (pc' := 9) (v := (0 : Int32)) hc rfl zki_0 rfl ?_
  refine g_istore (pc' := 11) (ls1 := [some (.ref 58), some (.ref 7), some (.ref 31), some (.long (J 31 2)), none, some (.int (0 : Int32)), some (.int (0 : Int32)), none]) hc rfl (zlt rfl) rfl rfl ?_
  refine zjn (G := (fun (g : Int64 × Int32 × (Nat → Int32) × (Nat → Int32)) => match g with | (y7, y8, y11, y12) => ∀ z9 : Option Value, znl z9 = true → ∀ z10 : Option Value, znl z10 = true → pm_ev C_X10_parts (d + 1) (pm_call M cost zext d) cost (false, false) 108 0 0 Q 89 [some (.ref 58), some (.ref 7), some (.ref 31), some (.long y7), none, some (.int y8), z9, z10] [] 0 0 (zS p q I [(59, none, y11), (60, none, y12)] J []))) (zwp_bind h) ?_ (fun h => ?_)
  · rintro ⟨y7, y8, y11, y12⟩ h z9 hz9 z10 hz10
    refine g_iload (pc' := 91)  hc rfl rfl rfl ?_
    replace h := zws h
    exact g_ireturn hc rfl rfl rfl (fun _ => ⟨rfl, rfl⟩) h
  refine zitr_ev (G := (fun (g : Int64 × Int32 × Int32 × (Nat → Int32) × (Nat → Int32)) => match g with | (x1, x2, x3, x5, x6) => ∀ z4 : Option Value, znl z4 = true → pm_ev C_X10_parts (d + 1) (pm_call M cost zext d) cost (false, false) 108 0 0 Q 11 [some (.ref 58), some (.ref 7), some (.ref 31), some (.long x1), none, some (.int x2), some (.int x3), z4] [] 0 0 (zS p q I [(59, none, x5), (60, none, x6)] J []))) ?_ zFU ((J 31 2), (0 : Int32), (0 : Int32), (I 59), (I 60)) h none rfl
  rintro ⟨x1, x2, x3, x5, x6⟩ h z4 hz4
  refine g_iload (pc' := 13)  hc rfl rfl rfl ?_
  refine g_aload_n (pc' := 14)  hc rfl rfl rfl rfl ?_
  refine z_virt (as := []) (a := 7) (r := [.int x3]) hc rfl rfl rfl rfl sh_7 rfl zco_21 rfl rfl rfl ?_
  refine ok_X3_cells_7 (zdp hd rfl) (zwp_mono (zwp_bind h) ?_)
  rintro r13 h
  refine z_po (pc' := 17) (st' := [.int r13, .int x3]) (v := (some (.int r13))) (L' := [(59, none, x5), (60, none, x6)]) (K' := []) zco_21 rfl rfl rfl rfl rfl rfl rfl rfl ?_
  refine g_icmp_ge (pc' := 20) hc rfl rfl (fun hx => ?_) (fun hx => ?_)
  · replace h := zwp_t h hx
    replace h := zwp_r h
    exact h (some (.int x3)) rfl z4 hz4
  · replace h := zwp_f h hx
    refine g_lload_n (pc' := 21)  hc rfl rfl rfl ?_
    refine g_iload (pc' := 23)  hc rfl rfl rfl ?_
    refine g_lushr (pc' := 24)  hc rfl rfl ?_
    refine g_lconst (pc' := 25) (v := (1 : Int64)) hc rfl zkl_1 rfl ?_
    refine g_land (pc' := 26)  hc rfl rfl ?_
    refine g_lconst (pc' := 27) (v := (0 : Int64)) hc rfl zkl_0 rfl ?_
    refine g_lcmp (pc' := 28)  hc rfl rfl ?_
    refine g_if_eq (pc' := 31) hc rfl rfl (fun hx => ?_) (fun hx => ?_)
    · replace h := zwp_t h hx
      refine g_iinc (pc' := 37) (ls1 := [some (.ref 58), some (.ref 7), some (.ref 31), some (.long x1), none, some (.int (x2 + (1 : Int32))), some (.int x3), z4]) hc rfl rfl zki_1 (zlt rfl) rfl rfl ?_
      refine g_aload_n (pc' := 38)  hc rfl rfl rfl rfl ?_
      refine g_aload_n (pc' := 39)  hc rfl rfl rfl rfl ?_
      refine g_aload_n (pc' := 40)  hc rfl rfl rfl rfl ?_
      refine g_iload (pc' := 42)  hc rfl rfl rfl ?_
      refine z_virt (as := [.ref 7, .ref 31, .int x3]) (a := 58) (r := []) hc rfl rfl rfl rfl sh_58 rfl zco_92 rfl rfl rfl ?_
      refine ok_X10_measure_58_7_31 (zdp hd rfl) (zwp_mono (zwp_bind h) ?_)
      rintro ⟨o14, o15⟩ h
      refine z_po (pc' := 45) (st' := []) (v := none) (L' := [(59, none, o14), (60, none, o15)]) (K' := []) zco_92 rfl rfl rfl rfl rfl rfl rfl rfl ?_
      refine g_iconst (pc' := 46) (v := (0 : Int32)) hc rfl zki_0 rfl ?_
      refine g_istore (pc' := 48) (ls1 := [some (.ref 58), some (.ref 7), some (.ref 31), some (.long x1), none, some (.int (x2 + (1 : Int32))), some (.int x3), some (.int (0 : Int32))]) hc rfl (zlt rfl) rfl rfl ?_
      refine zjn (G := (fun (y18 : Int64) => ∀ z19 : Option Value, znl z19 = true → pm_ev C_X10_parts (d + 1) (pm_call M cost zext d) cost (false, false) 108 0 0 Q 83 [some (.ref 58), some (.ref 7), some (.ref 31), some (.long y18), none, some (.int (x2 + (1 : Int32))), some (.int x3), z19] [] 0 0 (zS p q I [(59, none, o14), (60, none, o15)] J []))) (zwp_bind h) ?_ (fun h => ?_)
      · rintro y18 h z19 hz19
        refine g_iinc (pc' := 86) (ls1 := [some (.ref 58), some (.ref 7), some (.ref 31), some (.long y18), none, some (.int (x2 + (1 : Int32))), some (.int (x3 + (1 : Int32))), z19]) hc rfl rfl zki_1 (zlt rfl) rfl rfl ?_
        refine g_goto hc rfl ?_
        replace h := zwp_l h
        exact h z19 hz19
      refine zitr_ev (G := (fun (g : Int64 × Int32) => match g with | (x16, x17) => pm_ev C_X10_parts (d + 1) (pm_call M cost zext d) cost (false, false) 108 0 0 Q 48 [some (.ref 58), some (.ref 7), some (.ref 31), some (.long x16), none, some (.int (x2 + (1 : Int32))), some (.int x3), some (.int x17)] [] 0 0 (zS p q I [(59, none, o14), (60, none, o15)] J []))) ?_ zFU (x1, (0 : Int32)) h
      rintro ⟨x16, x17⟩ h
      refine g_iload (pc' := 50)  hc rfl rfl rfl ?_
      refine g_bipush (pc' := 52) (v := (36 : Int32)) hc rfl zkb_36 rfl ?_
      refine g_icmp_ge (pc' := 55) hc rfl rfl (fun hx => ?_) (fun hx => ?_)
      · replace h := zwp_t h hx
        replace h := zwp_r h
        exact h (some (.int x17)) rfl
      · replace h := zwp_f h hx
        refine g_aload_n (pc' := 56)  hc rfl rfl rfl rfl ?_
        refine z_getR (pc' := 59)  hc rfl rfl rfl sh_58 rfl rfl ?_
        refine g_iload (pc' := 61)  hc rfl rfl rfl ?_
        have hb := (zwp_bnd h).1
        replace h := (zwp_bnd h).2
        refine z_iaload (pc' := 62) (v := (o14 x17.toNatClampNeg)) hc rfl rfl sh_59 hb rfl rfl ?_
        refine g_iconst (pc' := 63) (v := (-1 : Int32)) hc rfl zki_m1 rfl ?_
        refine zjn (G := (fun (j20 : Int64) => pm_ev C_X10_parts (d + 1) (pm_call M cost zext d) cost (false, false) 108 0 0 Q 76 [some (.ref 58), some (.ref 7), some (.ref 31), some (.long x16), none, some (.int (x2 + (1 : Int32))), some (.int x3), some (.int x17)] [.long j20] 0 0 (zS p q I [(59, none, o14), (60, none, o15)] J []))) (zwp_bind h) ?_ (fun h => ?_)
        · rintro j20 h
          refine g_lstore_n (pc' := 77) (ls1 := [some (.ref 58), some (.ref 7), some (.ref 31), some (.long j20), none, some (.int (x2 + (1 : Int32))), some (.int x3), some (.int x17)]) hc rfl (zlt rfl) rfl rfl ?_
          refine g_iinc (pc' := 80) (ls1 := [some (.ref 58), some (.ref 7), some (.ref 31), some (.long j20), none, some (.int (x2 + (1 : Int32))), some (.int x3), some (.int (x17 + (1 : Int32)))]) hc rfl rfl zki_1 (zlt rfl) rfl rfl ?_
          refine g_goto hc rfl ?_
          replace h := zwp_l h
          exact h
        refine g_icmp_ne (pc' := 66) hc rfl rfl (fun hx => ?_) (fun hx => ?_)
        · replace h := zwp_f h hx
          refine g_lload_n (pc' := 71)  hc rfl rfl rfl ?_
          refine g_lconst (pc' := 72) (v := (1 : Int64)) hc rfl zkl_1 rfl ?_
          refine g_iload (pc' := 74)  hc rfl rfl rfl ?_
          refine g_lshl (pc' := 75)  hc rfl rfl ?_
          refine g_lor (pc' := 76)  hc rfl rfl ?_
          replace h := zws h
          exact h
        · replace h := zwp_t h hx
          refine g_lload_n (pc' := 67)  hc rfl rfl rfl ?_
          refine g_goto hc rfl ?_
          replace h := zws h
          exact h
    · replace h := zwp_f h hx
      refine g_goto hc rfl ?_
      refine g_iinc (pc' := 86) (ls1 := [some (.ref 58), some (.ref 7), some (.ref 31), some (.long x1), none, some (.int x2), some (.int (x3 + (1 : Int32))), z4]) hc rfl rfl zki_1 (zlt rfl) rfl rfl ?_
      refine g_goto hc rfl ?_
      replace h := zwp_l h
      exact h z4 hz4
