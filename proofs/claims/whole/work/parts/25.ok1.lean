set_option maxRecDepth 4000 in
theorem ok_X12_isOpened_75 {p q : Nat} {I : pI} {J : pJ} {Q : pQ} {d : Nat} (hd : 2 ≤ d) (h : zwp (f_X12_isOpened (I 75 38) (I 89)) (fun r => Q (.inl (some (.int r))) (zS p q I [] J []))) : pm_call M cost zext d 182 [.ref 75] (pm_st 108 (shp p q) I J) Q := by
  obtain ⟨d, rfl⟩ := zd1 hd rfl
  have hc := pm_call_m (M := M) (cost := cost) zext_m d
  refine z_in (L := []) (K := []) (ls := [some (.ref 75), none]) zmt_182 zco_182 rfl rfl zid_n zid_n ?_
  delta f_X12_isOpened at h
  refine g_aload_n (pc' := 1)  hc rfl rfl rfl rfl ?_
  refine z_getI (pc' := 4) (v := (I 75 38)) hc rfl rfl rfl sh_75 rfl rfl rfl ?_
  refine g_iconst (pc' := 5) (v := (1 : Int32)) hc rfl zki_1 rfl ?_
  refine g_isub (pc' := 6)  hc rfl rfl ?_
  refine g_istore_n (pc' := 7) (ls1 := [some (.ref 75), some (.int (((I 75 38)) - (1 : Int32)))]) hc rfl (zlt rfl) rfl rfl ?_
  refine zjn (G := (fun (y2 : Int32) => pm_ev C_X12_isOpened (d + 1) (pm_call M cost zext d) cost (false, false) 108 0 0 Q 29 [some (.ref 75), some (.int y2)] [] 0 0 (zS p q I [] J []))) (zwp_bind h) ?_ (fun h => ?_)
  · rintro y2 h
    refine g_iload_n (pc' := 30)  hc rfl rfl rfl ?_
    refine g_if_lt (pc' := 33) hc rfl rfl (fun hx => ?_) (fun hx => ?_)
    · replace h := zwp_t h hx
      refine g_iconst (pc' := 38) (v := (0 : Int32)) hc rfl zki_0 rfl ?_
      replace h := zws h
      exact g_ireturn hc rfl rfl rfl (fun _ => ⟨rfl, rfl⟩) h
    · replace h := zwp_f h hx
      refine g_iconst (pc' := 34) (v := (1 : Int32)) hc rfl zki_1 rfl ?_
      refine g_goto hc rfl ?_
      replace h := zws h
      exact g_ireturn hc rfl rfl rfl (fun _ => ⟨rfl, rfl⟩) h
  refine zitr_ev (G := (fun (x1 : Int32) => pm_ev C_X12_isOpened (d + 1) (pm_call M cost zext d) cost (false, false) 108 0 0 Q 7 [some (.ref 75), some (.int x1)] [] 0 0 (zS p q I [] J []))) ?_ zFU (((I 75 38)) - (1 : Int32)) h
  rintro x1 h
  refine g_iload_n (pc' := 8)  hc rfl rfl rfl ?_
  refine g_if_lt (pc' := 11) hc rfl rfl (fun hx => ?_) (fun hx => ?_)
  · replace h := zwp_t h hx
    replace h := zwp_r h
    exact h
  · replace h := zwp_f h hx
    refine g_aload_n (pc' := 12)  hc rfl rfl rfl rfl ?_
    refine z_getR (pc' := 15)  hc rfl rfl rfl sh_75 rfl rfl ?_
    refine g_iload_n (pc' := 16)  hc rfl rfl rfl ?_
    have hb := (zwp_bnd h).1
    replace h := (zwp_bnd h).2
    refine z_iaload (pc' := 17) (v := (((I 89)) x1.toNatClampNeg)) hc rfl rfl sh_89 hb rfl rfl ?_
    refine z_stat (as := [.int (((I 89)) x1.toNatClampNeg)]) (r := []) hc rfl rfl rfl rfl zco_175 rfl rfl rfl ?_
    refine ok_X12_isOpen (zdp hd rfl) (zwp_mono (zwp_bind h) ?_)
    rintro r3 h
    refine z_po (pc' := 20) (st' := [.int r3]) (v := (some (.int r3))) (L' := []) (K' := []) zco_175 rfl rfl rfl rfl rfl rfl rfl rfl ?_
    refine g_if_ne (pc' := 23) hc rfl rfl (fun hx => ?_) (fun hx => ?_)
    · replace h := zwp_f h hx
      replace h := zwp_r h
      exact h
    · replace h := zwp_t h hx
      refine g_iinc (pc' := 26) (ls1 := [some (.ref 75), some (.int (x1 + (-1 : Int32)))]) hc rfl rfl zki_m1 (zlt rfl) rfl rfl ?_
      refine g_goto hc rfl ?_
      replace h := zwp_l h
      exact h
set_option maxRecDepth 4000 in
theorem ok_X12_closes_75 {p q : Nat} {I : pI} {J : pJ} {Q : pQ} {d : Nat} (hd : 3 ≤ d) (h : zwp (f_X12_closes (I 75 39) (I 75 23) (I 75 19) (I 75 20) (I 75 22) (I 88) (I 75 25) (I 75 21) (I 81) (I 75 35) (I 75 24) (I 75 38) (I 89) (J 75 26)) (fun w => match w with | (o0, o1, o2, o3, o4, o5, o6, o7, o8, o9, o10) => Q (.inl none) (zS p q I [(75, some 20, fun _ => o2), (75, some 21, fun _ => o6), (75, some 22, fun _ => o3), (75, some 23, fun _ => o1), (75, some 24, fun _ => o8), (75, some 25, fun _ => o5), (75, some 35, fun _ => o7), (75, some 38, fun _ => o9), (75, some 39, fun _ => o0), (88, none, o4)] J [(75, some 26, fun _ => o10)]))) : pm_call M cost zext d 183 [.ref 75] (pm_st 108 (shp p q) I J) Q := by
  obtain ⟨d, rfl⟩ := zd1 hd rfl
  have hc := pm_call_m (M := M) (cost := cost) zext_m d
  refine z_in (L := [(75, some 20, fun _ => (I 75 20)), (75, some 21, fun _ => (I 75 21)), (75, some 22, fun _ => (I 75 22)), (75, some 23, fun _ => (I 75 23)), (75, some 24, fun _ => (I 75 24)), (75, some 25, fun _ => (I 75 25)), (75, some 35, fun _ => (I 75 35)), (75, some 38, fun _ => (I 75 38)), (75, some 39, fun _ => (I 75 39)), (88, none, (I 88))]) (K := [(75, some 26, fun _ => (J 75 26))]) (ls := [some (.ref 75)]) zmt_183 zco_183 rfl rfl (zid_s (zid_s (zid_s (zid_s (zid_s (zid_s (zid_s (zid_s (zid_s (zid_a zid_n)))))))))) (zid_s zid_n) ?_
  delta f_X12_closes at h
  refine g_aload_n (pc' := 1)  hc rfl rfl rfl rfl ?_
  refine g_iconst (pc' := 2) (v := (0 : Int32)) hc rfl zki_0 rfl ?_
  refine z_virt (as := [.int (0 : Int32)]) (a := 75) (r := []) hc rfl rfl rfl rfl sh_75 rfl zco_177 rfl rfl rfl ?_
  refine ok_X12_drops_75 (zdp hd rfl) (zwp_mono (zwp_bind h) ?_)
  rintro ⟨o1, o2, o3⟩ h
  refine z_po (pc' := 5) (st' := []) (v := none) (L' := [(75, some 20, fun _ => (I 75 20)), (75, some 21, fun _ => (I 75 21)), (75, some 22, fun _ => (I 75 22)), (75, some 23, fun _ => (I 75 23)), (75, some 24, fun _ => (I 75 24)), (75, some 25, fun _ => (I 75 25)), (75, some 35, fun _ => o2), (75, some 38, fun _ => o3), (75, some 39, fun _ => (I 75 39)), (88, none, o1)]) (K' := [(75, some 26, fun _ => (J 75 26))]) zco_177 rfl rfl rfl rfl rfl rfl rfl rfl ?_
  refine g_aload_n (pc' := 6)  hc rfl rfl rfl rfl ?_
  refine g_dup (pc' := 7)  hc rfl rfl rfl ?_
  refine z_getI (pc' := 10) (v := o3) hc rfl rfl rfl sh_75 rfl rfl rfl ?_
  refine g_iconst (pc' := 11) (v := (1 : Int32)) hc rfl zki_1 rfl ?_
  refine g_isub (pc' := 12)  hc rfl rfl ?_
  refine z_putI (pc' := 15) (L' := [(75, some 20, fun _ => (I 75 20)), (75, some 21, fun _ => (I 75 21)), (75, some 22, fun _ => (I 75 22)), (75, some 23, fun _ => (I 75 23)), (75, some 24, fun _ => (I 75 24)), (75, some 25, fun _ => (I 75 25)), (75, some 35, fun _ => o2), (75, some 38, fun _ => (o3 - (1 : Int32))), (75, some 39, fun _ => (I 75 39)), (88, none, o1)]) hc rfl rfl rfl sh_75 rfl zft_12_38 rfl (fun h => Bool.noConfusion h) rfl rfl rfl ?_
  refine g_aload_n (pc' := 16)  hc rfl rfl rfl rfl ?_
  refine g_dup (pc' := 17)  hc rfl rfl rfl ?_
  refine z_getI (pc' := 20) (v := (I 75 39)) hc rfl rfl rfl sh_75 rfl rfl rfl ?_
  refine g_iconst (pc' := 21) (v := (1 : Int32)) hc rfl zki_1 rfl ?_
  refine g_isub (pc' := 22)  hc rfl rfl ?_
  refine z_putI (pc' := 25) (L' := [(75, some 20, fun _ => (I 75 20)), (75, some 21, fun _ => (I 75 21)), (75, some 22, fun _ => (I 75 22)), (75, some 23, fun _ => (I 75 23)), (75, some 24, fun _ => (I 75 24)), (75, some 25, fun _ => (I 75 25)), (75, some 35, fun _ => o2), (75, some 38, fun _ => (o3 - (1 : Int32))), (75, some 39, fun _ => (((I 75 39)) - (1 : Int32))), (88, none, o1)]) hc rfl rfl rfl sh_75 rfl zft_12_39 rfl (fun h => Bool.noConfusion h) rfl rfl rfl ?_
  refine g_aload_n (pc' := 26)  hc rfl rfl rfl rfl ?_
  refine z_virt (as := []) (a := 75) (r := []) hc rfl rfl rfl rfl sh_75 rfl zco_164 rfl rfl rfl ?_
  refine ok_X12_goes_75 (zdp hd rfl) (zwp_mono (zwp_bind h) ?_)
  rintro ⟨o4, o5, o6, o7, o8, o9, o10⟩ h
  refine z_po (pc' := 29) (st' := []) (v := none) (L' := [(75, some 20, fun _ => o5), (75, some 21, fun _ => o8), (75, some 22, fun _ => o6), (75, some 23, fun _ => o4), (75, some 24, fun _ => o9), (75, some 25, fun _ => o7), (75, some 35, fun _ => o2), (75, some 38, fun _ => (o3 - (1 : Int32))), (75, some 39, fun _ => (((I 75 39)) - (1 : Int32))), (88, none, o1)]) (K' := [(75, some 26, fun _ => o10)]) zco_164 rfl rfl rfl rfl rfl rfl rfl rfl ?_
  replace h := zws h
  exact g_return hc rfl rfl (fun _ => ⟨rfl, rfl⟩) h
set_option maxRecDepth 4000 in
theorem ok_X12_expression_75 {p q : Nat} {I : pI} {J : pJ} {a1 : Int32} {a2 : Int32} {Q : pQ} {d : Nat} (hd : 6 ≤ d) (h : zwp (f_X12_expression a1 a2 (I 75 39) (I 75 16) (I 75 17) (I 75 36) (I 75 37) (I 75 23) (I 75 19) (I 75 20) (I 75 22) (I 88) (I 75 25) (I 75 21) (I 81) (I 90) (I 75 35) (I 75 24) (I 75 38) (I 89) (J 75 26)) (fun w => match w with | (o0, o1, o2, o3, o4, o5, o6, o7, o8, o9, o10, o11, o12, o13, o14, o15, o16) => Q (.inl none) (zS p q I [(75, some 16, fun _ => o1), (75, some 17, fun _ => o2), (75, some 20, fun _ => o6), (75, some 21, fun _ => o10), (75, some 22, fun _ => o7), (75, some 23, fun _ => o5), (75, some 24, fun _ => o13), (75, some 25, fun _ => o9), (75, some 35, fun _ => o12), (75, some 36, fun _ => o3), (75, some 37, fun _ => o4), (75, some 38, fun _ => o14), (75, some 39, fun _ => o0), (88, none, o8), (89, none, o15), (90, none, o11)] J [(75, some 26, fun _ => o16)]))) : pm_call M cost zext d 184 [.ref 75, .int a1, .int a2] (pm_st 108 (shp p q) I J) Q := by
  obtain ⟨d, rfl⟩ := zd1 hd rfl
  have hc := pm_call_m (M := M) (cost := cost) zext_m d
  refine z_in (L := [(75, some 16, fun _ => (I 75 16)), (75, some 17, fun _ => (I 75 17)), (75, some 20, fun _ => (I 75 20)), (75, some 21, fun _ => (I 75 21)), (75, some 22, fun _ => (I 75 22)), (75, some 23, fun _ => (I 75 23)), (75, some 24, fun _ => (I 75 24)), (75, some 25, fun _ => (I 75 25)), (75, some 35, fun _ => (I 75 35)), (75, some 36, fun _ => (I 75 36)), (75, some 37, fun _ => (I 75 37)), (75, some 38, fun _ => (I 75 38)), (75, some 39, fun _ => (I 75 39)), (88, none, (I 88)), (89, none, (I 89)), (90, none, (I 90))]) (K := [(75, some 26, fun _ => (J 75 26))]) (ls := [some (.ref 75), some (.int a1), some (.int a2), none, none]) zmt_184 zco_184 rfl rfl (zid_s (zid_s (zid_s (zid_s (zid_s (zid_s (zid_s (zid_s (zid_s (zid_s (zid_s (zid_s (zid_s (zid_a (zid_a (zid_a zid_n)))))))))))))))) (zid_s zid_n) ?_
  delta f_X12_expression at h
  refine g_aload_n (pc' := 1)  hc rfl rfl rfl rfl ?_
  refine z_virt (as := []) (a := 75) (r := []) hc rfl rfl rfl rfl sh_75 rfl zco_169 rfl rfl rfl ?_
  refine ok_X12_isGood_75 (zdp hd rfl) (zwp_mono (zwp_bind h) ?_)
  rintro r1 h
  refine z_po (pc' := 4) (st' := [.int r1]) (v := (some (.int r1))) (L' := [(75, some 16, fun _ => (I 75 16)), (75, some 17, fun _ => (I 75 17)), (75, some 20, fun _ => (I 75 20)), (75, some 21, fun _ => (I 75 21)), (75, some 22, fun _ => (I 75 22)), (75, some 23, fun _ => (I 75 23)), (75, some 24, fun _ => (I 75 24)), (75, some 25, fun _ => (I 75 25)), (75, some 35, fun _ => (I 75 35)), (75, some 36, fun _ => (I 75 36)), (75, some 37, fun _ => (I 75 37)), (75, some 38, fun _ => (I 75 38)), (75, some 39, fun _ => (I 75 39)), (88, none, (I 88)), (89, none, (I 89)), (90, none, (I 90))]) (K' := [(75, some 26, fun _ => (J 75 26))]) zco_169 rfl rfl rfl rfl rfl rfl rfl rfl ?_
  refine g_if_ne (pc' := 7) hc rfl rfl (fun hx => ?_) (fun hx => ?_)
  · replace h := zwp_f h hx
    refine g_aload_n (pc' := 9)  hc rfl rfl rfl rfl ?_
    refine g_iload_n (pc' := 10)  hc rfl rfl rfl ?_
    refine z_putI (pc' := 13) (L' := [(75, some 16, fun _ => (I 75 16)), (75, some 17, fun _ => (I 75 17)), (75, some 20, fun _ => (I 75 20)), (75, some 21, fun _ => (I 75 21)), (75, some 22, fun _ => (I 75 22)), (75, some 23, fun _ => (I 75 23)), (75, some 24, fun _ => (I 75 24)), (75, some 25, fun _ => (I 75 25)), (75, some 35, fun _ => (I 75 35)), (75, some 36, fun _ => a1), (75, some 37, fun _ => (I 75 37)), (75, some 38, fun _ => (I 75 38)), (75, some 39, fun _ => (I 75 39)), (88, none, (I 88)), (89, none, (I 89)), (90, none, (I 90))]) hc rfl rfl rfl sh_75 rfl zft_12_36 rfl (fun h => Bool.noConfusion h) rfl rfl rfl ?_
    refine g_aload_n (pc' := 14)  hc rfl rfl rfl rfl ?_
    refine g_iload_n (pc' := 15)  hc rfl rfl rfl ?_
    refine z_putI (pc' := 18) (L' := [(75, some 16, fun _ => (I 75 16)), (75, some 17, fun _ => (I 75 17)), (75, some 20, fun _ => (I 75 20)), (75, some 21, fun _ => (I 75 21)), (75, some 22, fun _ => (I 75 22)), (75, some 23, fun _ => (I 75 23)), (75, some 24, fun _ => (I 75 24)), (75, some 25, fun _ => (I 75 25)), (75, some 35, fun _ => (I 75 35)), (75, some 36, fun _ => a1), (75, some 37, fun _ => a2), (75, some 38, fun _ => (I 75 38)), (75, some 39, fun _ => (I 75 39)), (88, none, (I 88)), (89, none, (I 89)), (90, none, (I 90))]) hc rfl rfl rfl sh_75 rfl zft_12_37 rfl (fun h => Bool.noConfusion h) rfl rfl rfl ?_
    refine g_aload_n (pc' := 19)  hc rfl rfl rfl rfl ?_
    refine g_iconst (pc' := 20) (v := (0 : Int32)) hc rfl zki_0 rfl ?_
    refine z_putI (pc' := 23) (L' := [(75, some 16, fun _ => (I 75 16)), (75, some 17, fun _ => (I 75 17)), (75, some 20, fun _ => (I 75 20)), (75, some 21, fun _ => (I 75 21)), (75, some 22, fun _ => (I 75 22)), (75, some 23, fun _ => (I 75 23)), (75, some 24, fun _ => (I 75 24)), (75, some 25, fun _ => (I 75 25)), (75, some 35, fun _ => (I 75 35)), (75, some 36, fun _ => a1), (75, some 37, fun _ => a2), (75, some 38, fun _ => (0 : Int32)), (75, some 39, fun _ => (I 75 39)), (88, none, (I 88)), (89, none, (I 89)), (90, none, (I 90))]) hc rfl rfl rfl sh_75 rfl zft_12_38 rfl (fun h => Bool.noConfusion h) rfl rfl rfl ?_
    refine g_aload_n (pc' := 24)  hc rfl rfl rfl rfl ?_
    refine g_iconst (pc' := 25) (v := (0 : Int32)) hc rfl zki_0 rfl ?_
    refine z_putI (pc' := 28) (L' := [(75, some 16, fun _ => (I 75 16)), (75, some 17, fun _ => (I 75 17)), (75, some 20, fun _ => (I 75 20)), (75, some 21, fun _ => (I 75 21)), (75, some 22, fun _ => (I 75 22)), (75, some 23, fun _ => (I 75 23)), (75, some 24, fun _ => (I 75 24)), (75, some 25, fun _ => (I 75 25)), (75, some 35, fun _ => (I 75 35)), (75, some 36, fun _ => a1), (75, some 37, fun _ => a2), (75, some 38, fun _ => (0 : Int32)), (75, some 39, fun _ => (0 : Int32)), (88, none, (I 88)), (89, none, (I 89)), (90, none, (I 90))]) hc rfl rfl rfl sh_75 rfl zft_12_39 rfl (fun h => Bool.noConfusion h) rfl rfl rfl ?_
    refine g_aload_n (pc' := 29)  hc rfl rfl rfl rfl ?_
    refine z_virt (as := []) (a := 75) (r := []) hc rfl rfl rfl rfl sh_75 rfl zco_180 rfl rfl rfl ?_
    refine ok_X12_deeper_75 (zdp hd rfl) (zwp_mono (zwp_bind h) ?_)
    rintro ⟨o2, o3, o4, o5⟩ h
    refine z_po (pc' := 32) (st' := []) (v := none) (L' := [(75, some 16, fun _ => o3), (75, some 17, fun _ => o4), (75, some 20, fun _ => (I 75 20)), (75, some 21, fun _ => (I 75 21)), (75, some 22, fun _ => (I 75 22)), (75, some 23, fun _ => (I 75 23)), (75, some 24, fun _ => (I 75 24)), (75, some 25, fun _ => (I 75 25)), (75, some 35, fun _ => (I 75 35)), (75, some 36, fun _ => a1), (75, some 37, fun _ => a2), (75, some 38, fun _ => (0 : Int32)), (75, some 39, fun _ => o2), (88, none, (I 88)), (89, none, (I 89)), (90, none, o5)]) (K' := [(75, some 26, fun _ => (J 75 26))]) zco_180 rfl rfl rfl rfl rfl rfl rfl rfl ?_
    refine g_aload_n (pc' := 33)  hc rfl rfl rfl rfl ?_
    refine g_iconst (pc' := 34) (v := (1 : Int32)) hc rfl zki_1 rfl ?_
    refine z_virt (as := [.int (1 : Int32)]) (a := 75) (r := []) hc rfl rfl rfl rfl sh_75 rfl zco_181 rfl rfl rfl ?_
    refine ok_X12_operand_75 (zdp hd rfl) (zwp_mono (zwp_bind h) ?_)
    rintro ⟨o6, o7, o8, o9, o10, o11, o12, o13, o14, o15, o16, o17, o18, o19, o20⟩ h
    refine z_po (pc' := 37) (st' := []) (v := none) (L' := [(75, some 16, fun _ => o7), (75, some 17, fun _ => o8), (75, some 20, fun _ => o10), (75, some 21, fun _ => o14), (75, some 22, fun _ => o11), (75, some 23, fun _ => o9), (75, some 24, fun _ => o17), (75, some 25, fun _ => o13), (75, some 35, fun _ => o16), (75, some 36, fun _ => a1), (75, some 37, fun _ => a2), (75, some 38, fun _ => o18), (75, some 39, fun _ => o6), (88, none, o12), (89, none, o19), (90, none, o15)]) (K' := [(75, some 26, fun _ => o20)]) zco_181 rfl rfl rfl rfl rfl rfl rfl rfl ?_
    refine g_iconst (pc' := 38) (v := (1 : Int32)) hc rfl zki_1 rfl ?_
    refine g_istore_n (pc' := 39) (ls1 := [some (.ref 75), some (.int a1), some (.int a2), some (.int (1 : Int32)), none]) hc rfl (zlt rfl) rfl rfl ?_
    refine zjn (G := (fun (g : Int32 × Int32 × Int32 × Int32 × Int32 × Int32 × (Nat → Int32) × Int32 × Int32 × (Nat → Int32) × Int32 × Int32 × Int32 × (Nat → Int32) × Int64) => match g with | (y40, y41, y42, y43, y44, y45, y46, y47, y48, y49, y50, y51, y52, y53, y54) => ∀ z38 : Option Value, znl z38 = true → ∀ z39 : Option Value, znl z39 = true → pm_ev C_X12_expression (d + 1) (pm_call M cost zext d) cost (false, false) 108 0 0 Q 340 [some (.ref 75), some (.int a1), some (.int a2), z38, z39] [] 0 0 (zS p q I [(75, some 16, fun _ => y41), (75, some 17, fun _ => y42), (75, some 20, fun _ => y44), (75, some 21, fun _ => y48), (75, some 22, fun _ => y45), (75, some 23, fun _ => y43), (75, some 24, fun _ => y51), (75, some 25, fun _ => y47), (75, some 35, fun _ => y50), (75, some 36, fun _ => a1), (75, some 37, fun _ => a2), (75, some 38, fun _ => y52), (75, some 39, fun _ => y40), (88, none, y46), (89, none, y53), (90, none, y49)] J [(75, some 26, fun _ => y54)]))) (zwp_bind h) ?_ (fun h => ?_)
    · rintro ⟨y40, y41, y42, y43, y44, y45, y46, y47, y48, y49, y50, y51, y52, y53, y54⟩ h z38 hz38 z39 hz39
      refine g_aload_n (pc' := 341)  hc rfl rfl rfl rfl ?_
      refine z_virt (as := []) (a := 75) (r := []) hc rfl rfl rfl rfl sh_75 rfl zco_169 rfl rfl rfl ?_
      refine ok_X12_isGood_75 (zdp hd rfl) (zwp_mono (zwp_bind h) ?_)
      rintro r55 h
      refine z_po (pc' := 344) (st' := [.int r55]) (v := (some (.int r55))) (L' := [(75, some 16, fun _ => y41), (75, some 17, fun _ => y42), (75, some 20, fun _ => y44), (75, some 21, fun _ => y48), (75, some 22, fun _ => y45), (75, some 23, fun _ => y43), (75, some 24, fun _ => y51), (75, some 25, fun _ => y47), (75, some 35, fun _ => y50), (75, some 36, fun _ => a1), (75, some 37, fun _ => a2), (75, some 38, fun _ => y52), (75, some 39, fun _ => y40), (88, none, y46), (89, none, y53), (90, none, y49)]) (K' := [(75, some 26, fun _ => y54)]) zco_169 rfl rfl rfl rfl rfl rfl rfl rfl ?_
      refine zjn (G := (fun (g : Int32 × Int32) => match g with | (j56, j57) => pm_ev C_X12_expression (d + 1) (pm_call M cost zext d) cost (false, false) 108 0 0 Q 360 [some (.ref 75), some (.int a1), some (.int a2), z38, z39] [] 0 0 (zS p q I [(75, some 16, fun _ => j56), (75, some 17, fun _ => j57), (75, some 20, fun _ => y44), (75, some 21, fun _ => y48), (75, some 22, fun _ => y45), (75, some 23, fun _ => y43), (75, some 24, fun _ => y51), (75, some 25, fun _ => y47), (75, some 35, fun _ => y50), (75, some 36, fun _ => a1), (75, some 37, fun _ => a2), (75, some 38, fun _ => y52), (75, some 39, fun _ => y40), (88, none, y46), (89, none, y53), (90, none, y49)] J [(75, some 26, fun _ => y54)]))) (zwp_bind h) ?_ (fun h => ?_)
      · rintro ⟨j56, j57⟩ h
        refine g_aload_n (pc' := 361)  hc rfl rfl rfl rfl ?_
        refine g_iconst (pc' := 362) (v := (0 : Int32)) hc rfl zki_0 rfl ?_
        refine z_virt (as := [.int (0 : Int32)]) (a := 75) (r := []) hc rfl rfl rfl rfl sh_75 rfl zco_177 rfl rfl rfl ?_
        refine ok_X12_drops_75 (zdp hd rfl) (zwp_mono (zwp_bind h) ?_)
        rintro ⟨o58, o59, o60⟩ h
        refine z_po (pc' := 365) (st' := []) (v := none) (L' := [(75, some 16, fun _ => j56), (75, some 17, fun _ => j57), (75, some 20, fun _ => y44), (75, some 21, fun _ => y48), (75, some 22, fun _ => y45), (75, some 23, fun _ => y43), (75, some 24, fun _ => y51), (75, some 25, fun _ => y47), (75, some 35, fun _ => o59), (75, some 36, fun _ => a1), (75, some 37, fun _ => a2), (75, some 38, fun _ => o60), (75, some 39, fun _ => y40), (88, none, o58), (89, none, y53), (90, none, y49)]) (K' := [(75, some 26, fun _ => y54)]) zco_177 rfl rfl rfl rfl rfl rfl rfl rfl ?_
        refine g_aload_n (pc' := 366)  hc rfl rfl rfl rfl ?_
        refine g_iconst (pc' := 367) (v := (0 : Int32)) hc rfl zki_0 rfl ?_
        refine z_virt (as := [.int (0 : Int32)]) (a := 75) (r := []) hc rfl rfl rfl rfl sh_75 rfl zco_174 rfl rfl rfl ?_
        refine ok_X12_puts_75 (zdp hd rfl) (zwp_mono (zwp_bind h) ?_)
        rintro ⟨o61, o62⟩ h
        refine z_po (pc' := 370) (st' := []) (v := none) (L' := [(75, some 16, fun _ => j56), (75, some 17, fun _ => j57), (75, some 20, fun _ => y44), (75, some 21, fun _ => y48), (75, some 22, fun _ => y45), (75, some 23, fun _ => y43), (75, some 24, fun _ => y51), (75, some 25, fun _ => y47), (75, some 35, fun _ => o62), (75, some 36, fun _ => a1), (75, some 37, fun _ => a2), (75, some 38, fun _ => o60), (75, some 39, fun _ => y40), (88, none, o61), (89, none, y53), (90, none, y49)]) (K' := [(75, some 26, fun _ => y54)]) zco_174 rfl rfl rfl rfl rfl rfl rfl rfl ?_
        replace h := zws h
        exact g_return hc rfl rfl (fun _ => ⟨rfl, rfl⟩) h
      refine g_if_eq (pc' := 347) hc rfl rfl (fun hx => ?_) (fun hx => ?_)
      · replace h := zwp_t h hx
        replace h := zws h
        exact h
      · replace h := zwp_f h hx
        refine g_aload_n (pc' := 348)  hc rfl rfl rfl rfl ?_
        refine z_getI (pc' := 351) (v := y40) hc rfl rfl rfl sh_75 rfl rfl rfl ?_
        refine g_iconst (pc' := 352) (v := (1 : Int32)) hc rfl zki_1 rfl ?_
        refine g_icmp_le (pc' := 355) hc rfl rfl (fun hx => ?_) (fun hx => ?_)
        · replace h := zwp_t h hx
          replace h := zws h
          exact h
        · replace h := zwp_f h hx
          refine g_aload_n (pc' := 356)  hc rfl rfl rfl rfl ?_
          refine g_iconst (pc' := 357) (v := (1 : Int32)) hc rfl zki_1 rfl ?_
          refine z_virt (as := [.int (1 : Int32)]) (a := 75) (r := []) hc rfl rfl rfl rfl sh_75 rfl zco_168 rfl rfl rfl ?_
          refine ok_X12_wrong_75 (zdp hd rfl) (zwp_mono (zwp_bind h) ?_)
          rintro ⟨o63, o64⟩ h
          refine z_po (pc' := 360) (st' := []) (v := none) (L' := [(75, some 16, fun _ => o63), (75, some 17, fun _ => o64), (75, some 20, fun _ => y44), (75, some 21, fun _ => y48), (75, some 22, fun _ => y45), (75, some 23, fun _ => y43), (75, some 24, fun _ => y51), (75, some 25, fun _ => y47), (75, some 35, fun _ => y50), (75, some 36, fun _ => a1), (75, some 37, fun _ => a2), (75, some 38, fun _ => y52), (75, some 39, fun _ => y40), (88, none, y46), (89, none, y53), (90, none, y49)]) (K' := [(75, some 26, fun _ => y54)]) zco_168 rfl rfl rfl rfl rfl rfl rfl rfl ?_
          replace h := zws h
          exact h
    refine zitr_ev (G := (fun (g : Int32 × Int32 × Int32 × Int32 × Int32 × Int32 × Int32 × (Nat → Int32) × Int32 × Int32 × (Nat → Int32) × Int32 × Int32 × Int32 × (Nat → Int32) × Int64) => match g with | (x21, x23, x24, x25, x26, x27, x28, x29, x30, x31, x32, x33, x34, x35, x36, x37) => ∀ z22 : Option Value, znl z22 = true → pm_ev C_X12_expression (d + 1) (pm_call M cost zext d) cost (false, false) 108 0 0 Q 39 [some (.ref 75), some (.int a1), some (.int a2), some (.int x21), z22] [] 0 0 (zS p q I [(75, some 16, fun _ => x24), (75, some 17, fun _ => x25), (75, some 20, fun _ => x27), (75, some 21, fun _ => x31), (75, some 22, fun _ => x28), (75, some 23, fun _ => x26), (75, some 24, fun _ => x34), (75, some 25, fun _ => x30), (75, some 35, fun _ => x33), (75, some 36, fun _ => a1), (75, some 37, fun _ => a2), (75, some 38, fun _ => x35), (75, some 39, fun _ => x23), (88, none, x29), (89, none, x36), (90, none, x32)] J [(75, some 26, fun _ => x37)]))) ?_ zFU ((1 : Int32), o6, o7, o8, o9, o10, o11, o12, o13, o14, o15, o16, o17, o18, o19, o20) h none rfl
    rintro ⟨x21, x23, x24, x25, x26, x27, x28, x29, x30, x31, x32, x33, x34, x35, x36, x37⟩ h z22 hz22
    refine g_iload_n (pc' := 40)  hc rfl rfl rfl ?_
    refine g_if_eq (pc' := 43) hc rfl rfl (fun hx => ?_) (fun hx => ?_)
    · replace h := zwp_t h hx
      replace h := zwp_r h
      exact h (some (.int x21)) rfl z22 hz22
    · replace h := zwp_f h hx
      refine g_aload_n (pc' := 44)  hc rfl rfl rfl rfl ?_
      refine z_virt (as := []) (a := 75) (r := []) hc rfl rfl rfl rfl sh_75 rfl zco_169 rfl rfl rfl ?_
      refine ok_X12_isGood_75 (zdp hd rfl) (zwp_mono (zwp_bind h) ?_)
      rintro r65 h
      refine z_po (pc' := 47) (st' := [.int r65]) (v := (some (.int r65))) (L' := [(75, some 16, fun _ => x24), (75, some 17, fun _ => x25), (75, some 20, fun _ => x27), (75, some 21, fun _ => x31), (75, some 22, fun _ => x28), (75, some 23, fun _ => x26), (75, some 24, fun _ => x34), (75, some 25, fun _ => x30), (75, some 35, fun _ => x33), (75, some 36, fun _ => a1), (75, some 37, fun _ => a2), (75, some 38, fun _ => x35), (75, some 39, fun _ => x23), (88, none, x29), (89, none, x36), (90, none, x32)]) (K' := [(75, some 26, fun _ => x37)]) zco_169 rfl rfl rfl rfl rfl rfl rfl rfl ?_
      refine g_if_eq (pc' := 50) hc rfl rfl (fun hx => ?_) (fun hx => ?_)
      · replace h := zwp_t h hx
        replace h := zwp_r h
        exact h (some (.int x21)) rfl z22 hz22
      · replace h := zwp_f h hx
        refine g_aload_n (pc' := 51)  hc rfl rfl rfl rfl ?_
        refine z_virt (as := []) (a := 75) (r := []) hc rfl rfl rfl rfl sh_75 rfl zco_167 rfl rfl rfl ?_
        refine ok_X12_knownWord_75 (zdp hd rfl) (zwp_mono (zwp_bind h) ?_)
        rintro r66 h
        refine z_po (pc' := 54) (st' := [.int r66]) (v := (some (.int r66))) (L' := [(75, some 16, fun _ => x24), (75, some 17, fun _ => x25), (75, some 20, fun _ => x27), (75, some 21, fun _ => x31), (75, some 22, fun _ => x28), (75, some 23, fun _ => x26), (75, some 24, fun _ => x34), (75, some 25, fun _ => x30), (75, some 35, fun _ => x33), (75, some 36, fun _ => a1), (75, some 37, fun _ => a2), (75, some 38, fun _ => x35), (75, some 39, fun _ => x23), (88, none, x29), (89, none, x36), (90, none, x32)]) (K' := [(75, some 26, fun _ => x37)]) zco_167 rfl rfl rfl rfl rfl rfl rfl rfl ?_
        refine g_istore (pc' := 56) (ls1 := [some (.ref 75), some (.int a1), some (.int a2), some (.int x21), some (.int r66)]) hc rfl (zlt rfl) rfl rfl ?_
        refine g_iload (pc' := 58)  hc rfl rfl rfl ?_
        refine g_bipush (pc' := 60) (v := (13 : Int32)) hc rfl zkb_13 rfl ?_
        refine g_icmp_eq (pc' := 63) hc rfl rfl (fun hx => ?_) (fun hx => ?_)
        · replace h := zwp_t h hx
          refine g_aload_n (pc' := 71)  hc rfl rfl rfl rfl ?_
          refine g_iload (pc' := 73)  hc rfl rfl rfl ?_
          refine g_bipush (pc' := 75) (v := (13 : Int32)) hc rfl zkb_13 rfl ?_
          refine zjn (G := (fun (j67 : Int32) => pm_ev C_X12_expression (d + 1) (pm_call M cost zext d) cost (false, false) 108 0 0 Q 83 [some (.ref 75), some (.int a1), some (.int a2), some (.int x21), some (.int r66)] [.int j67, .ref 75] 0 0 (zS p q I [(75, some 16, fun _ => x24), (75, some 17, fun _ => x25), (75, some 20, fun _ => x27), (75, some 21, fun _ => x31), (75, some 22, fun _ => x28), (75, some 23, fun _ => x26), (75, some 24, fun _ => x34), (75, some 25, fun _ => x30), (75, some 35, fun _ => x33), (75, some 36, fun _ => a1), (75, some 37, fun _ => a2), (75, some 38, fun _ => x35), (75, some 39, fun _ => x23), (88, none, x29), (89, none, x36), (90, none, x32)] J [(75, some 26, fun _ => x37)]))) (zwp_bind h) ?_ (fun h => ?_)
          · rintro j67 h
            refine z_virt (as := [.int j67]) (a := 75) (r := []) hc rfl rfl rfl rfl sh_75 rfl zco_177 rfl rfl rfl ?_
            refine ok_X12_drops_75 (zdp hd rfl) (zwp_mono (zwp_bind h) ?_)
            rintro ⟨o68, o69, o70⟩ h
            refine z_po (pc' := 86) (st' := []) (v := none) (L' := [(75, some 16, fun _ => x24), (75, some 17, fun _ => x25), (75, some 20, fun _ => x27), (75, some 21, fun _ => x31), (75, some 22, fun _ => x28), (75, some 23, fun _ => x26), (75, some 24, fun _ => x34), (75, some 25, fun _ => x30), (75, some 35, fun _ => o69), (75, some 36, fun _ => a1), (75, some 37, fun _ => a2), (75, some 38, fun _ => o70), (75, some 39, fun _ => x23), (88, none, o68), (89, none, x36), (90, none, x32)]) (K' := [(75, some 26, fun _ => x37)]) zco_177 rfl rfl rfl rfl rfl rfl rfl rfl ?_
            refine g_aload_n (pc' := 87)  hc rfl rfl rfl rfl ?_
            refine g_iload (pc' := 89)  hc rfl rfl rfl ?_
            refine g_bipush (pc' := 91) (v := (13 : Int32)) hc rfl zkb_13 rfl ?_
            refine zjn (G := (fun (j71 : Int32) => pm_ev C_X12_expression (d + 1) (pm_call M cost zext d) cost (false, false) 108 0 0 Q 99 [some (.ref 75), some (.int a1), some (.int a2), some (.int x21), some (.int r66)] [.int j71, .ref 75] 0 0 (zS p q I [(75, some 16, fun _ => x24), (75, some 17, fun _ => x25), (75, some 20, fun _ => x27), (75, some 21, fun _ => x31), (75, some 22, fun _ => x28), (75, some 23, fun _ => x26), (75, some 24, fun _ => x34), (75, some 25, fun _ => x30), (75, some 35, fun _ => o69), (75, some 36, fun _ => a1), (75, some 37, fun _ => a2), (75, some 38, fun _ => o70), (75, some 39, fun _ => x23), (88, none, o68), (89, none, x36), (90, none, x32)] J [(75, some 26, fun _ => x37)]))) (zwp_bind h) ?_ (fun h => ?_)
            · rintro j71 h
              refine z_virt (as := [.int j71]) (a := 75) (r := []) hc rfl rfl rfl rfl sh_75 rfl zco_178 rfl rfl rfl ?_
              refine ok_X12_waitsFor_75 (zdp hd rfl) (zwp_mono (zwp_bind h) ?_)
              rintro ⟨o72, o73⟩ h
              refine z_po (pc' := 102) (st' := []) (v := none) (L' := [(75, some 16, fun _ => x24), (75, some 17, fun _ => x25), (75, some 20, fun _ => x27), (75, some 21, fun _ => x31), (75, some 22, fun _ => x28), (75, some 23, fun _ => x26), (75, some 24, fun _ => x34), (75, some 25, fun _ => x30), (75, some 35, fun _ => o69), (75, some 36, fun _ => a1), (75, some 37, fun _ => a2), (75, some 38, fun _ => o72), (75, some 39, fun _ => x23), (88, none, o68), (89, none, o73), (90, none, x32)]) (K' := [(75, some 26, fun _ => x37)]) zco_178 rfl rfl rfl rfl rfl rfl rfl rfl ?_
              refine g_aload_n (pc' := 103)  hc rfl rfl rfl rfl ?_
              refine z_getR (pc' := 106)  hc rfl rfl rfl sh_75 rfl rfl ?_
              refine g_aload_n (pc' := 107)  hc rfl rfl rfl rfl ?_
              refine z_getI (pc' := 110) (v := x23) hc rfl rfl rfl sh_75 rfl rfl rfl ?_
              refine g_iconst (pc' := 111) (v := (0 : Int32)) hc rfl zki_0 rfl ?_
              have hb := (zwp_bnd h).1
              replace h := (zwp_bnd h).2
              refine z_bastore (pc' := 112) (g := x32) (L' := [(75, some 16, fun _ => x24), (75, some 17, fun _ => x25), (75, some 20, fun _ => x27), (75, some 21, fun _ => x31), (75, some 22, fun _ => x28), (75, some 23, fun _ => x26), (75, some 24, fun _ => x34), (75, some 25, fun _ => x30), (75, some 35, fun _ => o69), (75, some 36, fun _ => a1), (75, some 37, fun _ => a2), (75, some 38, fun _ => o72), (75, some 39, fun _ => x23), (88, none, o68), (89, none, o73), (90, none, (upd x32 x23.toNatClampNeg (vp_nar .boolean (0 : Int32))))]) hc rfl rfl sh_90 hb rfl rfl rfl rfl ?_
              refine g_aload_n (pc' := 113)  hc rfl rfl rfl rfl ?_
              refine z_virt (as := []) (a := 75) (r := []) hc rfl rfl rfl rfl sh_75 rfl zco_164 rfl rfl rfl ?_
              refine ok_X12_goes_75 (zdp hd rfl) (zwp_mono (zwp_bind h) ?_)
              rintro ⟨o74, o75, o76, o77, o78, o79, o80⟩ h
              refine z_po (pc' := 116) (st' := []) (v := none) (L' := [(75, some 16, fun _ => x24), (75, some 17, fun _ => x25), (75, some 20, fun _ => o75), (75, some 21, fun _ => o78), (75, some 22, fun _ => o76), (75, some 23, fun _ => o74), (75, some 24, fun _ => o79), (75, some 25, fun _ => o77), (75, some 35, fun _ => o69), (75, some 36, fun _ => a1), (75, some 37, fun _ => a2), (75, some 38, fun _ => o72), (75, some 39, fun _ => x23), (88, none, o68), (89, none, o73), (90, none, (upd x32 x23.toNatClampNeg (vp_nar .boolean (0 : Int32))))]) (K' := [(75, some 26, fun _ => o80)]) zco_164 rfl rfl rfl rfl rfl rfl rfl rfl ?_
              refine g_aload_n (pc' := 117)  hc rfl rfl rfl rfl ?_
              refine g_iconst (pc' := 118) (v := (1 : Int32)) hc rfl zki_1 rfl ?_
              refine z_virt (as := [.int (1 : Int32)]) (a := 75) (r := []) hc rfl rfl rfl rfl sh_75 rfl zco_181 rfl rfl rfl ?_
              refine ok_X12_operand_75 (zdp hd rfl) (zwp_mono (zwp_bind h) ?_)
              rintro ⟨o81, o82, o83, o84, o85, o86, o87, o88, o89, o90, o91, o92, o93, o94, o95⟩ h
              refine z_po (pc' := 121) (st' := []) (v := none) (L' := [(75, some 16, fun _ => o82), (75, some 17, fun _ => o83), (75, some 20, fun _ => o85), (75, some 21, fun _ => o89), (75, some 22, fun _ => o86), (75, some 23, fun _ => o84), (75, some 24, fun _ => o92), (75, some 25, fun _ => o88), (75, some 35, fun _ => o91), (75, some 36, fun _ => a1), (75, some 37, fun _ => a2), (75, some 38, fun _ => o93), (75, some 39, fun _ => o81), (88, none, o87), (89, none, o94), (90, none, o90)]) (K' := [(75, some 26, fun _ => o95)]) zco_181 rfl rfl rfl rfl rfl rfl rfl rfl ?_
              refine g_goto hc rfl ?_
              refine g_goto hc rfl ?_
              replace h := zwp_l h
              exact h (some (.int r66)) rfl
            refine g_icmp_ne (pc' := 94) hc rfl rfl (fun hx => ?_) (fun hx => ?_)
            · replace h := zwp_f h hx
              refine g_iconst (pc' := 99) (v := (5 : Int32)) hc rfl zki_5 rfl ?_
              replace h := zws h
              exact h
            · replace h := zwp_t h hx
              refine g_iconst (pc' := 95) (v := (4 : Int32)) hc rfl zki_4 rfl ?_
              refine g_goto hc rfl ?_
              replace h := zws h
              exact h
          refine g_icmp_ne (pc' := 78) hc rfl rfl (fun hx => ?_) (fun hx => ?_)
          · replace h := zwp_f h hx
            refine g_iconst (pc' := 83) (v := (1 : Int32)) hc rfl zki_1 rfl ?_
            replace h := zws h
            exact h
          · replace h := zwp_t h hx
            refine g_iconst (pc' := 79) (v := (2 : Int32)) hc rfl zki_2 rfl ?_
            refine g_goto hc rfl ?_
            replace h := zws h
            exact h
        · replace h := zwp_f h hx
          refine g_iload (pc' := 65)  hc rfl rfl rfl ?_
          refine g_bipush (pc' := 67) (v := (14 : Int32)) hc rfl zkb_14 rfl ?_
          refine g_icmp_ne (pc' := 70) hc rfl rfl (fun hx => ?_) (fun hx => ?_)
          · replace h := zwp_f h hx
            refine g_aload_n (pc' := 125)  hc rfl rfl rfl rfl ?_
            refine g_bipush (pc' := 127) (v := (60 : Int32)) hc rfl zkb_60 rfl ?_
            refine z_virt (as := [.int (60 : Int32)]) (a := 75) (r := []) hc rfl rfl rfl rfl sh_75 rfl zco_170 rfl rfl rfl ?_
            refine ok_X12_isSign_75 (zdp hd rfl) (zwp_mono (zwp_bind h) ?_)
            rintro r96 h
            refine z_po (pc' := 130) (st' := [.int r96]) (v := (some (.int r96))) (L' := [(75, some 16, fun _ => x24), (75, some 17, fun _ => x25), (75, some 20, fun _ => x27), (75, some 21, fun _ => x31), (75, some 22, fun _ => x28), (75, some 23, fun _ => x26), (75, some 24, fun _ => x34), (75, some 25, fun _ => x30), (75, some 35, fun _ => x33), (75, some 36, fun _ => a1), (75, some 37, fun _ => a2), (75, some 38, fun _ => x35), (75, some 39, fun _ => x23), (88, none, x29), (89, none, x36), (90, none, x32)]) (K' := [(75, some 26, fun _ => x37)]) zco_170 rfl rfl rfl rfl rfl rfl rfl rfl ?_
            refine g_if_ne (pc' := 133) hc rfl rfl (fun hx => ?_) (fun hx => ?_)
            · replace h := zwp_f h hx
              refine g_aload_n (pc' := 143)  hc rfl rfl rfl rfl ?_
              refine z_getR (pc' := 146)  hc rfl rfl rfl sh_75 rfl rfl ?_
              refine g_aload_n (pc' := 147)  hc rfl rfl rfl rfl ?_
              refine z_getI (pc' := 150) (v := x23) hc rfl rfl rfl sh_75 rfl rfl rfl ?_
              have hb := (zwp_bnd h).1
              replace h := (zwp_bnd h).2
              refine z_baload (pc' := 151) (v := (x32 x23.toNatClampNeg)) hc rfl rfl sh_90 hb rfl rfl ?_
              refine g_if_ne (pc' := 154) hc rfl rfl (fun hx => ?_) (fun hx => ?_)
              · replace h := zwp_f h hx
                refine g_aload_n (pc' := 202)  hc rfl rfl rfl rfl ?_
                refine g_bipush (pc' := 204) (v := (43 : Int32)) hc rfl zkb_43 rfl ?_
                refine z_virt (as := [.int (43 : Int32)]) (a := 75) (r := []) hc rfl rfl rfl rfl sh_75 rfl zco_170 rfl rfl rfl ?_
                refine ok_X12_isSign_75 (zdp hd rfl) (zwp_mono (zwp_bind h) ?_)
                rintro r97 h
                refine z_po (pc' := 207) (st' := [.int r97]) (v := (some (.int r97))) (L' := [(75, some 16, fun _ => x24), (75, some 17, fun _ => x25), (75, some 20, fun _ => x27), (75, some 21, fun _ => x31), (75, some 22, fun _ => x28), (75, some 23, fun _ => x26), (75, some 24, fun _ => x34), (75, some 25, fun _ => x30), (75, some 35, fun _ => x33), (75, some 36, fun _ => a1), (75, some 37, fun _ => a2), (75, some 38, fun _ => x35), (75, some 39, fun _ => x23), (88, none, x29), (89, none, x36), (90, none, x32)]) (K' := [(75, some 26, fun _ => x37)]) zco_170 rfl rfl rfl rfl rfl rfl rfl rfl ?_
                refine g_if_ne (pc' := 210) hc rfl rfl (fun hx => ?_) (fun hx => ?_)
                · replace h := zwp_f h hx
                  refine g_aload_n (pc' := 220)  hc rfl rfl rfl rfl ?_
                  refine g_iconst (pc' := 221) (v := (5 : Int32)) hc rfl zki_5 rfl ?_
                  refine z_virt (as := [.int (5 : Int32)]) (a := 75) (r := []) hc rfl rfl rfl rfl sh_75 rfl zco_177 rfl rfl rfl ?_
                  refine ok_X12_drops_75 (zdp hd rfl) (zwp_mono (zwp_bind h) ?_)
                  rintro ⟨o98, o99, o100⟩ h
                  refine z_po (pc' := 224) (st' := []) (v := none) (L' := [(75, some 16, fun _ => x24), (75, some 17, fun _ => x25), (75, some 20, fun _ => x27), (75, some 21, fun _ => x31), (75, some 22, fun _ => x28), (75, some 23, fun _ => x26), (75, some 24, fun _ => x34), (75, some 25, fun _ => x30), (75, some 35, fun _ => o99), (75, some 36, fun _ => a1), (75, some 37, fun _ => a2), (75, some 38, fun _ => o100), (75, some 39, fun _ => x23), (88, none, o98), (89, none, x36), (90, none, x32)]) (K' := [(75, some 26, fun _ => x37)]) zco_177 rfl rfl rfl rfl rfl rfl rfl rfl ?_
                  refine g_aload_n (pc' := 225)  hc rfl rfl rfl rfl ?_
                  refine g_aload_n (pc' := 226)  hc rfl rfl rfl rfl ?_
                  refine g_bipush (pc' := 228) (v := (43 : Int32)) hc rfl zkb_43 rfl ?_
                  refine z_virt (as := [.int (43 : Int32)]) (a := 75) (r := [.ref 75]) hc rfl rfl rfl rfl sh_75 rfl zco_170 rfl rfl rfl ?_
                  refine ok_X12_isSign_75 (zdp hd rfl) (zwp_mono (zwp_bind h) ?_)
                  rintro r101 h
                  refine z_po (pc' := 231) (st' := [.int r101, .ref 75]) (v := (some (.int r101))) (L' := [(75, some 16, fun _ => x24), (75, some 17, fun _ => x25), (75, some 20, fun _ => x27), (75, some 21, fun _ => x31), (75, some 22, fun _ => x28), (75, some 23, fun _ => x26), (75, some 24, fun _ => x34), (75, some 25, fun _ => x30), (75, some 35, fun _ => o99), (75, some 36, fun _ => a1), (75, some 37, fun _ => a2), (75, some 38, fun _ => o100), (75, some 39, fun _ => x23), (88, none, o98), (89, none, x36), (90, none, x32)]) (K' := [(75, some 26, fun _ => x37)]) zco_170 rfl rfl rfl rfl rfl rfl rfl rfl ?_
                  refine zjn (G := (fun (j102 : Int32) => pm_ev C_X12_expression (d + 1) (pm_call M cost zext d) cost (false, false) 108 0 0 Q 241 [some (.ref 75), some (.int a1), some (.int a2), some (.int x21), some (.int r66)] [.int j102, .ref 75] 0 0 (zS p q I [(75, some 16, fun _ => x24), (75, some 17, fun _ => x25), (75, some 20, fun _ => x27), (75, some 21, fun _ => x31), (75, some 22, fun _ => x28), (75, some 23, fun _ => x26), (75, some 24, fun _ => x34), (75, some 25, fun _ => x30), (75, some 35, fun _ => o99), (75, some 36, fun _ => a1), (75, some 37, fun _ => a2), (75, some 38, fun _ => o100), (75, some 39, fun _ => x23), (88, none, o98), (89, none, x36), (90, none, x32)] J [(75, some 26, fun _ => x37)]))) (zwp_bind h) ?_ (fun h => ?_)
                  · rintro j102 h
                    refine z_virt (as := [.int j102]) (a := 75) (r := []) hc rfl rfl rfl rfl sh_75 rfl zco_178 rfl rfl rfl ?_
                    refine ok_X12_waitsFor_75 (zdp hd rfl) (zwp_mono (zwp_bind h) ?_)
                    rintro ⟨o103, o104⟩ h
                    refine z_po (pc' := 244) (st' := []) (v := none) (L' := [(75, some 16, fun _ => x24), (75, some 17, fun _ => x25), (75, some 20, fun _ => x27), (75, some 21, fun _ => x31), (75, some 22, fun _ => x28), (75, some 23, fun _ => x26), (75, some 24, fun _ => x34), (75, some 25, fun _ => x30), (75, some 35, fun _ => o99), (75, some 36, fun _ => a1), (75, some 37, fun _ => a2), (75, some 38, fun _ => o103), (75, some 39, fun _ => x23), (88, none, o98), (89, none, o104), (90, none, x32)]) (K' := [(75, some 26, fun _ => x37)]) zco_178 rfl rfl rfl rfl rfl rfl rfl rfl ?_
                    refine g_aload_n (pc' := 245)  hc rfl rfl rfl rfl ?_
                    refine z_virt (as := []) (a := 75) (r := []) hc rfl rfl rfl rfl sh_75 rfl zco_164 rfl rfl rfl ?_
                    refine ok_X12_goes_75 (zdp hd rfl) (zwp_mono (zwp_bind h) ?_)
                    rintro ⟨o105, o106, o107, o108, o109, o110, o111⟩ h
                    refine z_po (pc' := 248) (st' := []) (v := none) (L' := [(75, some 16, fun _ => x24), (75, some 17, fun _ => x25), (75, some 20, fun _ => o106), (75, some 21, fun _ => o109), (75, some 22, fun _ => o107), (75, some 23, fun _ => o105), (75, some 24, fun _ => o110), (75, some 25, fun _ => o108), (75, some 35, fun _ => o99), (75, some 36, fun _ => a1), (75, some 37, fun _ => a2), (75, some 38, fun _ => o103), (75, some 39, fun _ => x23), (88, none, o98), (89, none, o104), (90, none, x32)]) (K' := [(75, some 26, fun _ => o111)]) zco_164 rfl rfl rfl rfl rfl rfl rfl rfl ?_
                    refine g_aload_n (pc' := 249)  hc rfl rfl rfl rfl ?_
                    refine g_iconst (pc' := 250) (v := (0 : Int32)) hc rfl zki_0 rfl ?_
                    refine z_virt (as := [.int (0 : Int32)]) (a := 75) (r := []) hc rfl rfl rfl rfl sh_75 rfl zco_181 rfl rfl rfl ?_
                    refine ok_X12_operand_75 (zdp hd rfl) (zwp_mono (zwp_bind h) ?_)
                    rintro ⟨o112, o113, o114, o115, o116, o117, o118, o119, o120, o121, o122, o123, o124, o125, o126⟩ h
                    refine z_po (pc' := 253) (st' := []) (v := none) (L' := [(75, some 16, fun _ => o113), (75, some 17, fun _ => o114), (75, some 20, fun _ => o116), (75, some 21, fun _ => o120), (75, some 22, fun _ => o117), (75, some 23, fun _ => o115), (75, some 24, fun _ => o123), (75, some 25, fun _ => o119), (75, some 35, fun _ => o122), (75, some 36, fun _ => a1), (75, some 37, fun _ => a2), (75, some 38, fun _ => o124), (75, some 39, fun _ => o112), (88, none, o118), (89, none, o125), (90, none, o121)]) (K' := [(75, some 26, fun _ => o126)]) zco_181 rfl rfl rfl rfl rfl rfl rfl rfl ?_
                    refine g_goto hc rfl ?_
                    refine g_goto hc rfl ?_
                    replace h := zwp_l h
                    exact h (some (.int r66)) rfl
                  refine g_if_eq (pc' := 234) hc rfl rfl (fun hx => ?_) (fun hx => ?_)
                  · replace h := zwp_t h hx
                    refine g_bipush (pc' := 241) (v := (9 : Int32)) hc rfl zkb_9 rfl ?_
                    replace h := zws h
                    exact h
                  · replace h := zwp_f h hx
                    refine g_bipush (pc' := 236) (v := (8 : Int32)) hc rfl zkb_8 rfl ?_
                    refine g_goto hc rfl ?_
                    replace h := zws h
                    exact h
                · replace h := zwp_t h hx
                  refine g_aload_n (pc' := 211)  hc rfl rfl rfl rfl ?_
                  refine g_bipush (pc' := 213) (v := (45 : Int32)) hc rfl zkb_45 rfl ?_
                  refine z_virt (as := [.int (45 : Int32)]) (a := 75) (r := []) hc rfl rfl rfl rfl sh_75 rfl zco_170 rfl rfl rfl ?_
                  refine ok_X12_isSign_75 (zdp hd rfl) (zwp_mono (zwp_bind h) ?_)
                  rintro r127 h
                  refine z_po (pc' := 216) (st' := [.int r127]) (v := (some (.int r127))) (L' := [(75, some 16, fun _ => x24), (75, some 17, fun _ => x25), (75, some 20, fun _ => x27), (75, some 21, fun _ => x31), (75, some 22, fun _ => x28), (75, some 23, fun _ => x26), (75, some 24, fun _ => x34), (75, some 25, fun _ => x30), (75, some 35, fun _ => x33), (75, some 36, fun _ => a1), (75, some 37, fun _ => a2), (75, some 38, fun _ => x35), (75, some 39, fun _ => x23), (88, none, x29), (89, none, x36), (90, none, x32)]) (K' := [(75, some 26, fun _ => x37)]) zco_170 rfl rfl rfl rfl rfl rfl rfl rfl ?_
                  refine g_if_eq (pc' := 219) hc rfl rfl (fun hx => ?_) (fun hx => ?_)
                  · replace h := zwp_t h hx
                    refine g_aload_n (pc' := 257)  hc rfl rfl rfl rfl ?_
                    refine g_bipush (pc' := 259) (v := (42 : Int32)) hc rfl zkb_42 rfl ?_
                    refine z_virt (as := [.int (42 : Int32)]) (a := 75) (r := []) hc rfl rfl rfl rfl sh_75 rfl zco_170 rfl rfl rfl ?_
                    refine ok_X12_isSign_75 (zdp hd rfl) (zwp_mono (zwp_bind h) ?_)
                    rintro r128 h
                    refine z_po (pc' := 262) (st' := [.int r128]) (v := (some (.int r128))) (L' := [(75, some 16, fun _ => x24), (75, some 17, fun _ => x25), (75, some 20, fun _ => x27), (75, some 21, fun _ => x31), (75, some 22, fun _ => x28), (75, some 23, fun _ => x26), (75, some 24, fun _ => x34), (75, some 25, fun _ => x30), (75, some 35, fun _ => x33), (75, some 36, fun _ => a1), (75, some 37, fun _ => a2), (75, some 38, fun _ => x35), (75, some 39, fun _ => x23), (88, none, x29), (89, none, x36), (90, none, x32)]) (K' := [(75, some 26, fun _ => x37)]) zco_170 rfl rfl rfl rfl rfl rfl rfl rfl ?_
                    refine g_if_ne (pc' := 265) hc rfl rfl (fun hx => ?_) (fun hx => ?_)
                    · replace h := zwp_f h hx
                      refine g_aload_n (pc' := 275)  hc rfl rfl rfl rfl ?_
                      refine g_bipush (pc' := 277) (v := (6 : Int32)) hc rfl zkb_6 rfl ?_
                      refine z_virt (as := [.int (6 : Int32)]) (a := 75) (r := []) hc rfl rfl rfl rfl sh_75 rfl zco_177 rfl rfl rfl ?_
                      refine ok_X12_drops_75 (zdp hd rfl) (zwp_mono (zwp_bind h) ?_)
                      rintro ⟨o129, o130, o131⟩ h
                      refine z_po (pc' := 280) (st' := []) (v := none) (L' := [(75, some 16, fun _ => x24), (75, some 17, fun _ => x25), (75, some 20, fun _ => x27), (75, some 21, fun _ => x31), (75, some 22, fun _ => x28), (75, some 23, fun _ => x26), (75, some 24, fun _ => x34), (75, some 25, fun _ => x30), (75, some 35, fun _ => o130), (75, some 36, fun _ => a1), (75, some 37, fun _ => a2), (75, some 38, fun _ => o131), (75, some 39, fun _ => x23), (88, none, o129), (89, none, x36), (90, none, x32)]) (K' := [(75, some 26, fun _ => x37)]) zco_177 rfl rfl rfl rfl rfl rfl rfl rfl ?_
                      refine g_aload_n (pc' := 281)  hc rfl rfl rfl rfl ?_
                      refine g_aload_n (pc' := 282)  hc rfl rfl rfl rfl ?_
                      refine g_bipush (pc' := 284) (v := (42 : Int32)) hc rfl zkb_42 rfl ?_
                      refine z_virt (as := [.int (42 : Int32)]) (a := 75) (r := [.ref 75]) hc rfl rfl rfl rfl sh_75 rfl zco_170 rfl rfl rfl ?_
                      refine ok_X12_isSign_75 (zdp hd rfl) (zwp_mono (zwp_bind h) ?_)
                      rintro r132 h
                      refine z_po (pc' := 287) (st' := [.int r132, .ref 75]) (v := (some (.int r132))) (L' := [(75, some 16, fun _ => x24), (75, some 17, fun _ => x25), (75, some 20, fun _ => x27), (75, some 21, fun _ => x31), (75, some 22, fun _ => x28), (75, some 23, fun _ => x26), (75, some 24, fun _ => x34), (75, some 25, fun _ => x30), (75, some 35, fun _ => o130), (75, some 36, fun _ => a1), (75, some 37, fun _ => a2), (75, some 38, fun _ => o131), (75, some 39, fun _ => x23), (88, none, o129), (89, none, x36), (90, none, x32)]) (K' := [(75, some 26, fun _ => x37)]) zco_170 rfl rfl rfl rfl rfl rfl rfl rfl ?_
                      refine zjn (G := (fun (j133 : Int32) => pm_ev C_X12_expression (d + 1) (pm_call M cost zext d) cost (false, false) 108 0 0 Q 297 [some (.ref 75), some (.int a1), some (.int a2), some (.int x21), some (.int r66)] [.int j133, .ref 75] 0 0 (zS p q I [(75, some 16, fun _ => x24), (75, some 17, fun _ => x25), (75, some 20, fun _ => x27), (75, some 21, fun _ => x31), (75, some 22, fun _ => x28), (75, some 23, fun _ => x26), (75, some 24, fun _ => x34), (75, some 25, fun _ => x30), (75, some 35, fun _ => o130), (75, some 36, fun _ => a1), (75, some 37, fun _ => a2), (75, some 38, fun _ => o131), (75, some 39, fun _ => x23), (88, none, o129), (89, none, x36), (90, none, x32)] J [(75, some 26, fun _ => x37)]))) (zwp_bind h) ?_ (fun h => ?_)
                      · rintro j133 h
                        refine z_virt (as := [.int j133]) (a := 75) (r := []) hc rfl rfl rfl rfl sh_75 rfl zco_178 rfl rfl rfl ?_
                        refine ok_X12_waitsFor_75 (zdp hd rfl) (zwp_mono (zwp_bind h) ?_)
                        rintro ⟨o134, o135⟩ h
                        refine z_po (pc' := 300) (st' := []) (v := none) (L' := [(75, some 16, fun _ => x24), (75, some 17, fun _ => x25), (75, some 20, fun _ => x27), (75, some 21, fun _ => x31), (75, some 22, fun _ => x28), (75, some 23, fun _ => x26), (75, some 24, fun _ => x34), (75, some 25, fun _ => x30), (75, some 35, fun _ => o130), (75, some 36, fun _ => a1), (75, some 37, fun _ => a2), (75, some 38, fun _ => o134), (75, some 39, fun _ => x23), (88, none, o129), (89, none, o135), (90, none, x32)]) (K' := [(75, some 26, fun _ => x37)]) zco_178 rfl rfl rfl rfl rfl rfl rfl rfl ?_
                        refine g_aload_n (pc' := 301)  hc rfl rfl rfl rfl ?_
                        refine z_virt (as := []) (a := 75) (r := []) hc rfl rfl rfl rfl sh_75 rfl zco_164 rfl rfl rfl ?_
                        refine ok_X12_goes_75 (zdp hd rfl) (zwp_mono (zwp_bind h) ?_)
                        rintro ⟨o136, o137, o138, o139, o140, o141, o142⟩ h
                        refine z_po (pc' := 304) (st' := []) (v := none) (L' := [(75, some 16, fun _ => x24), (75, some 17, fun _ => x25), (75, some 20, fun _ => o137), (75, some 21, fun _ => o140), (75, some 22, fun _ => o138), (75, some 23, fun _ => o136), (75, some 24, fun _ => o141), (75, some 25, fun _ => o139), (75, some 35, fun _ => o130), (75, some 36, fun _ => a1), (75, some 37, fun _ => a2), (75, some 38, fun _ => o134), (75, some 39, fun _ => x23), (88, none, o129), (89, none, o135), (90, none, x32)]) (K' := [(75, some 26, fun _ => o142)]) zco_164 rfl rfl rfl rfl rfl rfl rfl rfl ?_
                        refine g_aload_n (pc' := 305)  hc rfl rfl rfl rfl ?_
                        refine g_iconst (pc' := 306) (v := (0 : Int32)) hc rfl zki_0 rfl ?_
                        refine z_virt (as := [.int (0 : Int32)]) (a := 75) (r := []) hc rfl rfl rfl rfl sh_75 rfl zco_181 rfl rfl rfl ?_
                        refine ok_X12_operand_75 (zdp hd rfl) (zwp_mono (zwp_bind h) ?_)
                        rintro ⟨o143, o144, o145, o146, o147, o148, o149, o150, o151, o152, o153, o154, o155, o156, o157⟩ h
                        refine z_po (pc' := 309) (st' := []) (v := none) (L' := [(75, some 16, fun _ => o144), (75, some 17, fun _ => o145), (75, some 20, fun _ => o147), (75, some 21, fun _ => o151), (75, some 22, fun _ => o148), (75, some 23, fun _ => o146), (75, some 24, fun _ => o154), (75, some 25, fun _ => o150), (75, some 35, fun _ => o153), (75, some 36, fun _ => a1), (75, some 37, fun _ => a2), (75, some 38, fun _ => o155), (75, some 39, fun _ => o143), (88, none, o149), (89, none, o156), (90, none, o152)]) (K' := [(75, some 26, fun _ => o157)]) zco_181 rfl rfl rfl rfl rfl rfl rfl rfl ?_
                        refine g_goto hc rfl ?_
                        refine g_goto hc rfl ?_
                        replace h := zwp_l h
                        exact h (some (.int r66)) rfl
                      refine g_if_eq (pc' := 290) hc rfl rfl (fun hx => ?_) (fun hx => ?_)
                      · replace h := zwp_t h hx
                        refine g_bipush (pc' := 297) (v := (11 : Int32)) hc rfl zkb_11 rfl ?_
                        replace h := zws h
                        exact h
                      · replace h := zwp_f h hx
                        refine g_bipush (pc' := 292) (v := (10 : Int32)) hc rfl zkb_10 rfl ?_
                        refine g_goto hc rfl ?_
                        replace h := zws h
                        exact h
                    · replace h := zwp_t h hx
                      refine g_aload_n (pc' := 266)  hc rfl rfl rfl rfl ?_
                      refine g_bipush (pc' := 268) (v := (47 : Int32)) hc rfl zkb_47 rfl ?_
                      refine z_virt (as := [.int (47 : Int32)]) (a := 75) (r := []) hc rfl rfl rfl rfl sh_75 rfl zco_170 rfl rfl rfl ?_
                      refine ok_X12_isSign_75 (zdp hd rfl) (zwp_mono (zwp_bind h) ?_)
                      rintro r158 h
                      refine z_po (pc' := 271) (st' := [.int r158]) (v := (some (.int r158))) (L' := [(75, some 16, fun _ => x24), (75, some 17, fun _ => x25), (75, some 20, fun _ => x27), (75, some 21, fun _ => x31), (75, some 22, fun _ => x28), (75, some 23, fun _ => x26), (75, some 24, fun _ => x34), (75, some 25, fun _ => x30), (75, some 35, fun _ => x33), (75, some 36, fun _ => a1), (75, some 37, fun _ => a2), (75, some 38, fun _ => x35), (75, some 39, fun _ => x23), (88, none, x29), (89, none, x36), (90, none, x32)]) (K' := [(75, some 26, fun _ => x37)]) zco_170 rfl rfl rfl rfl rfl rfl rfl rfl ?_
                      refine g_if_eq (pc' := 274) hc rfl rfl (fun hx => ?_) (fun hx => ?_)
                      · replace h := zwp_t h hx
                        refine g_aload_n (pc' := 313)  hc rfl rfl rfl rfl ?_
                        refine g_bipush (pc' := 315) (v := (41 : Int32)) hc rfl zkb_41 rfl ?_
                        refine z_virt (as := [.int (41 : Int32)]) (a := 75) (r := []) hc rfl rfl rfl rfl sh_75 rfl zco_170 rfl rfl rfl ?_
                        refine ok_X12_isSign_75 (zdp hd rfl) (zwp_mono (zwp_bind h) ?_)
                        rintro r159 h
                        refine z_po (pc' := 318) (st' := [.int r159]) (v := (some (.int r159))) (L' := [(75, some 16, fun _ => x24), (75, some 17, fun _ => x25), (75, some 20, fun _ => x27), (75, some 21, fun _ => x31), (75, some 22, fun _ => x28), (75, some 23, fun _ => x26), (75, some 24, fun _ => x34), (75, some 25, fun _ => x30), (75, some 35, fun _ => x33), (75, some 36, fun _ => a1), (75, some 37, fun _ => a2), (75, some 38, fun _ => x35), (75, some 39, fun _ => x23), (88, none, x29), (89, none, x36), (90, none, x32)]) (K' := [(75, some 26, fun _ => x37)]) zco_170 rfl rfl rfl rfl rfl rfl rfl rfl ?_
                        refine g_if_eq (pc' := 321) hc rfl rfl (fun hx => ?_) (fun hx => ?_)
                        · replace h := zwp_t h hx
                          refine g_iconst (pc' := 336) (v := (0 : Int32)) hc rfl zki_0 rfl ?_
                          refine g_istore_n (pc' := 337) (ls1 := [some (.ref 75), some (.int a1), some (.int a2), some (.int (0 : Int32)), some (.int r66)]) hc rfl (zlt rfl) rfl rfl ?_
                          refine g_goto hc rfl ?_
                          replace h := zwp_l h
                          exact h (some (.int r66)) rfl
                        · replace h := zwp_f h hx
                          refine g_aload_n (pc' := 322)  hc rfl rfl rfl rfl ?_
                          refine z_virt (as := []) (a := 75) (r := []) hc rfl rfl rfl rfl sh_75 rfl zco_182 rfl rfl rfl ?_
                          refine ok_X12_isOpened_75 (zdp hd rfl) (zwp_mono (zwp_bind h) ?_)
                          rintro r160 h
                          refine z_po (pc' := 325) (st' := [.int r160]) (v := (some (.int r160))) (L' := [(75, some 16, fun _ => x24), (75, some 17, fun _ => x25), (75, some 20, fun _ => x27), (75, some 21, fun _ => x31), (75, some 22, fun _ => x28), (75, some 23, fun _ => x26), (75, some 24, fun _ => x34), (75, some 25, fun _ => x30), (75, some 35, fun _ => x33), (75, some 36, fun _ => a1), (75, some 37, fun _ => a2), (75, some 38, fun _ => x35), (75, some 39, fun _ => x23), (88, none, x29), (89, none, x36), (90, none, x32)]) (K' := [(75, some 26, fun _ => x37)]) zco_182 rfl rfl rfl rfl rfl rfl rfl rfl ?_
                          refine g_if_eq (pc' := 328) hc rfl rfl (fun hx => ?_) (fun hx => ?_)
                          · replace h := zwp_t h hx
                            refine g_iconst (pc' := 336) (v := (0 : Int32)) hc rfl zki_0 rfl ?_
                            refine g_istore_n (pc' := 337) (ls1 := [some (.ref 75), some (.int a1), some (.int a2), some (.int (0 : Int32)), some (.int r66)]) hc rfl (zlt rfl) rfl rfl ?_
                            refine g_goto hc rfl ?_
                            replace h := zwp_l h
                            exact h (some (.int r66)) rfl
                          · replace h := zwp_f h hx
                            refine g_aload_n (pc' := 329)  hc rfl rfl rfl rfl ?_
                            refine z_virt (as := []) (a := 75) (r := []) hc rfl rfl rfl rfl sh_75 rfl zco_183 rfl rfl rfl ?_
                            refine ok_X12_closes_75 (zdp hd rfl) (zwp_mono (zwp_bind h) ?_)
                            rintro ⟨o161, o162, o163, o164, o165, o166, o167, o168, o169, o170, o171⟩ h
                            refine z_po (pc' := 332) (st' := []) (v := none) (L' := [(75, some 16, fun _ => x24), (75, some 17, fun _ => x25), (75, some 20, fun _ => o163), (75, some 21, fun _ => o167), (75, some 22, fun _ => o164), (75, some 23, fun _ => o162), (75, some 24, fun _ => o169), (75, some 25, fun _ => o166), (75, some 35, fun _ => o168), (75, some 36, fun _ => a1), (75, some 37, fun _ => a2), (75, some 38, fun _ => o170), (75, some 39, fun _ => o161), (88, none, o165), (89, none, x36), (90, none, x32)]) (K' := [(75, some 26, fun _ => o171)]) zco_183 rfl rfl rfl rfl rfl rfl rfl rfl ?_
                            refine g_goto hc rfl ?_
                            refine g_goto hc rfl ?_
                            replace h := zwp_l h
                            exact h (some (.int r66)) rfl
                      · replace h := zwp_f h hx
                        refine g_aload_n (pc' := 275)  hc rfl rfl rfl rfl ?_
                        refine g_bipush (pc' := 277) (v := (6 : Int32)) hc rfl zkb_6 rfl ?_
                        refine z_virt (as := [.int (6 : Int32)]) (a := 75) (r := []) hc rfl rfl rfl rfl sh_75 rfl zco_177 rfl rfl rfl ?_
                        refine ok_X12_drops_75 (zdp hd rfl) (zwp_mono (zwp_bind h) ?_)
                        rintro ⟨o172, o173, o174⟩ h
                        refine z_po (pc' := 280) (st' := []) (v := none) (L' := [(75, some 16, fun _ => x24), (75, some 17, fun _ => x25), (75, some 20, fun _ => x27), (75, some 21, fun _ => x31), (75, some 22, fun _ => x28), (75, some 23, fun _ => x26), (75, some 24, fun _ => x34), (75, some 25, fun _ => x30), (75, some 35, fun _ => o173), (75, some 36, fun _ => a1), (75, some 37, fun _ => a2), (75, some 38, fun _ => o174), (75, some 39, fun _ => x23), (88, none, o172), (89, none, x36), (90, none, x32)]) (K' := [(75, some 26, fun _ => x37)]) zco_177 rfl rfl rfl rfl rfl rfl rfl rfl ?_
                        refine g_aload_n (pc' := 281)  hc rfl rfl rfl rfl ?_
                        refine g_aload_n (pc' := 282)  hc rfl rfl rfl rfl ?_
                        refine g_bipush (pc' := 284) (v := (42 : Int32)) hc rfl zkb_42 rfl ?_
                        refine z_virt (as := [.int (42 : Int32)]) (a := 75) (r := [.ref 75]) hc rfl rfl rfl rfl sh_75 rfl zco_170 rfl rfl rfl ?_
                        refine ok_X12_isSign_75 (zdp hd rfl) (zwp_mono (zwp_bind h) ?_)
                        rintro r175 h
                        refine z_po (pc' := 287) (st' := [.int r175, .ref 75]) (v := (some (.int r175))) (L' := [(75, some 16, fun _ => x24), (75, some 17, fun _ => x25), (75, some 20, fun _ => x27), (75, some 21, fun _ => x31), (75, some 22, fun _ => x28), (75, some 23, fun _ => x26), (75, some 24, fun _ => x34), (75, some 25, fun _ => x30), (75, some 35, fun _ => o173), (75, some 36, fun _ => a1), (75, some 37, fun _ => a2), (75, some 38, fun _ => o174), (75, some 39, fun _ => x23), (88, none, o172), (89, none, x36), (90, none, x32)]) (K' := [(75, some 26, fun _ => x37)]) zco_170 rfl rfl rfl rfl rfl rfl rfl rfl ?_
                        refine zjn (G := (fun (j176 : Int32) => pm_ev C_X12_expression (d + 1) (pm_call M cost zext d) cost (false, false) 108 0 0 Q 297 [some (.ref 75), some (.int a1), some (.int a2), some (.int x21), some (.int r66)] [.int j176, .ref 75] 0 0 (zS p q I [(75, some 16, fun _ => x24), (75, some 17, fun _ => x25), (75, some 20, fun _ => x27), (75, some 21, fun _ => x31), (75, some 22, fun _ => x28), (75, some 23, fun _ => x26), (75, some 24, fun _ => x34), (75, some 25, fun _ => x30), (75, some 35, fun _ => o173), (75, some 36, fun _ => a1), (75, some 37, fun _ => a2), (75, some 38, fun _ => o174), (75, some 39, fun _ => x23), (88, none, o172), (89, none, x36), (90, none, x32)] J [(75, some 26, fun _ => x37)]))) (zwp_bind h) ?_ (fun h => ?_)
                        · rintro j176 h
                          refine z_virt (as := [.int j176]) (a := 75) (r := []) hc rfl rfl rfl rfl sh_75 rfl zco_178 rfl rfl rfl ?_
                          refine ok_X12_waitsFor_75 (zdp hd rfl) (zwp_mono (zwp_bind h) ?_)
                          rintro ⟨o177, o178⟩ h
                          refine z_po (pc' := 300) (st' := []) (v := none) (L' := [(75, some 16, fun _ => x24), (75, some 17, fun _ => x25), (75, some 20, fun _ => x27), (75, some 21, fun _ => x31), (75, some 22, fun _ => x28), (75, some 23, fun _ => x26), (75, some 24, fun _ => x34), (75, some 25, fun _ => x30), (75, some 35, fun _ => o173), (75, some 36, fun _ => a1), (75, some 37, fun _ => a2), (75, some 38, fun _ => o177), (75, some 39, fun _ => x23), (88, none, o172), (89, none, o178), (90, none, x32)]) (K' := [(75, some 26, fun _ => x37)]) zco_178 rfl rfl rfl rfl rfl rfl rfl rfl ?_
                          refine g_aload_n (pc' := 301)  hc rfl rfl rfl rfl ?_
                          refine z_virt (as := []) (a := 75) (r := []) hc rfl rfl rfl rfl sh_75 rfl zco_164 rfl rfl rfl ?_
                          refine ok_X12_goes_75 (zdp hd rfl) (zwp_mono (zwp_bind h) ?_)
                          rintro ⟨o179, o180, o181, o182, o183, o184, o185⟩ h
                          refine z_po (pc' := 304) (st' := []) (v := none) (L' := [(75, some 16, fun _ => x24), (75, some 17, fun _ => x25), (75, some 20, fun _ => o180), (75, some 21, fun _ => o183), (75, some 22, fun _ => o181), (75, some 23, fun _ => o179), (75, some 24, fun _ => o184), (75, some 25, fun _ => o182), (75, some 35, fun _ => o173), (75, some 36, fun _ => a1), (75, some 37, fun _ => a2), (75, some 38, fun _ => o177), (75, some 39, fun _ => x23), (88, none, o172), (89, none, o178), (90, none, x32)]) (K' := [(75, some 26, fun _ => o185)]) zco_164 rfl rfl rfl rfl rfl rfl rfl rfl ?_
                          refine g_aload_n (pc' := 305)  hc rfl rfl rfl rfl ?_
                          refine g_iconst (pc' := 306) (v := (0 : Int32)) hc rfl zki_0 rfl ?_
                          refine z_virt (as := [.int (0 : Int32)]) (a := 75) (r := []) hc rfl rfl rfl rfl sh_75 rfl zco_181 rfl rfl rfl ?_
                          refine ok_X12_operand_75 (zdp hd rfl) (zwp_mono (zwp_bind h) ?_)
                          rintro ⟨o186, o187, o188, o189, o190, o191, o192, o193, o194, o195, o196, o197, o198, o199, o200⟩ h
                          refine z_po (pc' := 309) (st' := []) (v := none) (L' := [(75, some 16, fun _ => o187), (75, some 17, fun _ => o188), (75, some 20, fun _ => o190), (75, some 21, fun _ => o194), (75, some 22, fun _ => o191), (75, some 23, fun _ => o189), (75, some 24, fun _ => o197), (75, some 25, fun _ => o193), (75, some 35, fun _ => o196), (75, some 36, fun _ => a1), (75, some 37, fun _ => a2), (75, some 38, fun _ => o198), (75, some 39, fun _ => o186), (88, none, o192), (89, none, o199), (90, none, o195)]) (K' := [(75, some 26, fun _ => o200)]) zco_181 rfl rfl rfl rfl rfl rfl rfl rfl ?_
                          refine g_goto hc rfl ?_
                          refine g_goto hc rfl ?_
                          replace h := zwp_l h
                          exact h (some (.int r66)) rfl
                        refine g_if_eq (pc' := 290) hc rfl rfl (fun hx => ?_) (fun hx => ?_)
                        · replace h := zwp_t h hx
                          refine g_bipush (pc' := 297) (v := (11 : Int32)) hc rfl zkb_11 rfl ?_
                          replace h := zws h
                          exact h
                        · replace h := zwp_f h hx
                          refine g_bipush (pc' := 292) (v := (10 : Int32)) hc rfl zkb_10 rfl ?_
                          refine g_goto hc rfl ?_
                          replace h := zws h
                          exact h
                  · replace h := zwp_f h hx
                    refine g_aload_n (pc' := 220)  hc rfl rfl rfl rfl ?_
                    refine g_iconst (pc' := 221) (v := (5 : Int32)) hc rfl zki_5 rfl ?_
                    refine z_virt (as := [.int (5 : Int32)]) (a := 75) (r := []) hc rfl rfl rfl rfl sh_75 rfl zco_177 rfl rfl rfl ?_
                    refine ok_X12_drops_75 (zdp hd rfl) (zwp_mono (zwp_bind h) ?_)
                    rintro ⟨o201, o202, o203⟩ h
                    refine z_po (pc' := 224) (st' := []) (v := none) (L' := [(75, some 16, fun _ => x24), (75, some 17, fun _ => x25), (75, some 20, fun _ => x27), (75, some 21, fun _ => x31), (75, some 22, fun _ => x28), (75, some 23, fun _ => x26), (75, some 24, fun _ => x34), (75, some 25, fun _ => x30), (75, some 35, fun _ => o202), (75, some 36, fun _ => a1), (75, some 37, fun _ => a2), (75, some 38, fun _ => o203), (75, some 39, fun _ => x23), (88, none, o201), (89, none, x36), (90, none, x32)]) (K' := [(75, some 26, fun _ => x37)]) zco_177 rfl rfl rfl rfl rfl rfl rfl rfl ?_
                    refine g_aload_n (pc' := 225)  hc rfl rfl rfl rfl ?_
                    refine g_aload_n (pc' := 226)  hc rfl rfl rfl rfl ?_
                    refine g_bipush (pc' := 228) (v := (43 : Int32)) hc rfl zkb_43 rfl ?_
                    refine z_virt (as := [.int (43 : Int32)]) (a := 75) (r := [.ref 75]) hc rfl rfl rfl rfl sh_75 rfl zco_170 rfl rfl rfl ?_
                    refine ok_X12_isSign_75 (zdp hd rfl) (zwp_mono (zwp_bind h) ?_)
                    rintro r204 h
                    refine z_po (pc' := 231) (st' := [.int r204, .ref 75]) (v := (some (.int r204))) (L' := [(75, some 16, fun _ => x24), (75, some 17, fun _ => x25), (75, some 20, fun _ => x27), (75, some 21, fun _ => x31), (75, some 22, fun _ => x28), (75, some 23, fun _ => x26), (75, some 24, fun _ => x34), (75, some 25, fun _ => x30), (75, some 35, fun _ => o202), (75, some 36, fun _ => a1), (75, some 37, fun _ => a2), (75, some 38, fun _ => o203), (75, some 39, fun _ => x23), (88, none, o201), (89, none, x36), (90, none, x32)]) (K' := [(75, some 26, fun _ => x37)]) zco_170 rfl rfl rfl rfl rfl rfl rfl rfl ?_
                    refine zjn (G := (fun (j205 : Int32) => pm_ev C_X12_expression (d + 1) (pm_call M cost zext d) cost (false, false) 108 0 0 Q 241 [some (.ref 75), some (.int a1), some (.int a2), some (.int x21), some (.int r66)] [.int j205, .ref 75] 0 0 (zS p q I [(75, some 16, fun _ => x24), (75, some 17, fun _ => x25), (75, some 20, fun _ => x27), (75, some 21, fun _ => x31), (75, some 22, fun _ => x28), (75, some 23, fun _ => x26), (75, some 24, fun _ => x34), (75, some 25, fun _ => x30), (75, some 35, fun _ => o202), (75, some 36, fun _ => a1), (75, some 37, fun _ => a2), (75, some 38, fun _ => o203), (75, some 39, fun _ => x23), (88, none, o201), (89, none, x36), (90, none, x32)] J [(75, some 26, fun _ => x37)]))) (zwp_bind h) ?_ (fun h => ?_)
                    · rintro j205 h
                      refine z_virt (as := [.int j205]) (a := 75) (r := []) hc rfl rfl rfl rfl sh_75 rfl zco_178 rfl rfl rfl ?_
                      refine ok_X12_waitsFor_75 (zdp hd rfl) (zwp_mono (zwp_bind h) ?_)
                      rintro ⟨o206, o207⟩ h
                      refine z_po (pc' := 244) (st' := []) (v := none) (L' := [(75, some 16, fun _ => x24), (75, some 17, fun _ => x25), (75, some 20, fun _ => x27), (75, some 21, fun _ => x31), (75, some 22, fun _ => x28), (75, some 23, fun _ => x26), (75, some 24, fun _ => x34), (75, some 25, fun _ => x30), (75, some 35, fun _ => o202), (75, some 36, fun _ => a1), (75, some 37, fun _ => a2), (75, some 38, fun _ => o206), (75, some 39, fun _ => x23), (88, none, o201), (89, none, o207), (90, none, x32)]) (K' := [(75, some 26, fun _ => x37)]) zco_178 rfl rfl rfl rfl rfl rfl rfl rfl ?_
                      refine g_aload_n (pc' := 245)  hc rfl rfl rfl rfl ?_
                      refine z_virt (as := []) (a := 75) (r := []) hc rfl rfl rfl rfl sh_75 rfl zco_164 rfl rfl rfl ?_
                      refine ok_X12_goes_75 (zdp hd rfl) (zwp_mono (zwp_bind h) ?_)
                      rintro ⟨o208, o209, o210, o211, o212, o213, o214⟩ h
                      refine z_po (pc' := 248) (st' := []) (v := none) (L' := [(75, some 16, fun _ => x24), (75, some 17, fun _ => x25), (75, some 20, fun _ => o209), (75, some 21, fun _ => o212), (75, some 22, fun _ => o210), (75, some 23, fun _ => o208), (75, some 24, fun _ => o213), (75, some 25, fun _ => o211), (75, some 35, fun _ => o202), (75, some 36, fun _ => a1), (75, some 37, fun _ => a2), (75, some 38, fun _ => o206), (75, some 39, fun _ => x23), (88, none, o201), (89, none, o207), (90, none, x32)]) (K' := [(75, some 26, fun _ => o214)]) zco_164 rfl rfl rfl rfl rfl rfl rfl rfl ?_
                      refine g_aload_n (pc' := 249)  hc rfl rfl rfl rfl ?_
                      refine g_iconst (pc' := 250) (v := (0 : Int32)) hc rfl zki_0 rfl ?_
                      refine z_virt (as := [.int (0 : Int32)]) (a := 75) (r := []) hc rfl rfl rfl rfl sh_75 rfl zco_181 rfl rfl rfl ?_
                      refine ok_X12_operand_75 (zdp hd rfl) (zwp_mono (zwp_bind h) ?_)
                      rintro ⟨o215, o216, o217, o218, o219, o220, o221, o222, o223, o224, o225, o226, o227, o228, o229⟩ h
                      refine z_po (pc' := 253) (st' := []) (v := none) (L' := [(75, some 16, fun _ => o216), (75, some 17, fun _ => o217), (75, some 20, fun _ => o219), (75, some 21, fun _ => o223), (75, some 22, fun _ => o220), (75, some 23, fun _ => o218), (75, some 24, fun _ => o226), (75, some 25, fun _ => o222), (75, some 35, fun _ => o225), (75, some 36, fun _ => a1), (75, some 37, fun _ => a2), (75, some 38, fun _ => o227), (75, some 39, fun _ => o215), (88, none, o221), (89, none, o228), (90, none, o224)]) (K' := [(75, some 26, fun _ => o229)]) zco_181 rfl rfl rfl rfl rfl rfl rfl rfl ?_
                      refine g_goto hc rfl ?_
                      refine g_goto hc rfl ?_
                      replace h := zwp_l h
                      exact h (some (.int r66)) rfl
                    refine g_if_eq (pc' := 234) hc rfl rfl (fun hx => ?_) (fun hx => ?_)
                    · replace h := zwp_t h hx
                      refine g_bipush (pc' := 241) (v := (9 : Int32)) hc rfl zkb_9 rfl ?_
                      replace h := zws h
                      exact h
                    · replace h := zwp_f h hx
                      refine g_bipush (pc' := 236) (v := (8 : Int32)) hc rfl zkb_8 rfl ?_
                      refine g_goto hc rfl ?_
                      replace h := zws h
                      exact h
              · replace h := zwp_t h hx
                refine g_aload_n (pc' := 155)  hc rfl rfl rfl rfl ?_
                refine g_iconst (pc' := 156) (v := (4 : Int32)) hc rfl zki_4 rfl ?_
                refine z_virt (as := [.int (4 : Int32)]) (a := 75) (r := []) hc rfl rfl rfl rfl sh_75 rfl zco_177 rfl rfl rfl ?_
                refine ok_X12_drops_75 (zdp hd rfl) (zwp_mono (zwp_bind h) ?_)
                rintro ⟨o230, o231, o232⟩ h
                refine z_po (pc' := 159) (st' := []) (v := none) (L' := [(75, some 16, fun _ => x24), (75, some 17, fun _ => x25), (75, some 20, fun _ => x27), (75, some 21, fun _ => x31), (75, some 22, fun _ => x28), (75, some 23, fun _ => x26), (75, some 24, fun _ => x34), (75, some 25, fun _ => x30), (75, some 35, fun _ => o231), (75, some 36, fun _ => a1), (75, some 37, fun _ => a2), (75, some 38, fun _ => o232), (75, some 39, fun _ => x23), (88, none, o230), (89, none, x36), (90, none, x32)]) (K' := [(75, some 26, fun _ => x37)]) zco_177 rfl rfl rfl rfl rfl rfl rfl rfl ?_
                refine g_aload_n (pc' := 160)  hc rfl rfl rfl rfl ?_
                refine g_aload_n (pc' := 161)  hc rfl rfl rfl rfl ?_
                refine g_bipush (pc' := 163) (v := (60 : Int32)) hc rfl zkb_60 rfl ?_
                refine z_virt (as := [.int (60 : Int32)]) (a := 75) (r := [.ref 75]) hc rfl rfl rfl rfl sh_75 rfl zco_170 rfl rfl rfl ?_
                refine ok_X12_isSign_75 (zdp hd rfl) (zwp_mono (zwp_bind h) ?_)
                rintro r233 h
                refine z_po (pc' := 166) (st' := [.int r233, .ref 75]) (v := (some (.int r233))) (L' := [(75, some 16, fun _ => x24), (75, some 17, fun _ => x25), (75, some 20, fun _ => x27), (75, some 21, fun _ => x31), (75, some 22, fun _ => x28), (75, some 23, fun _ => x26), (75, some 24, fun _ => x34), (75, some 25, fun _ => x30), (75, some 35, fun _ => o231), (75, some 36, fun _ => a1), (75, some 37, fun _ => a2), (75, some 38, fun _ => o232), (75, some 39, fun _ => x23), (88, none, o230), (89, none, x36), (90, none, x32)]) (K' := [(75, some 26, fun _ => x37)]) zco_170 rfl rfl rfl rfl rfl rfl rfl rfl ?_
                refine zjn (G := (fun (j234 : Int32) => pm_ev C_X12_expression (d + 1) (pm_call M cost zext d) cost (false, false) 108 0 0 Q 176 [some (.ref 75), some (.int a1), some (.int a2), some (.int x21), some (.int r66)] [.int j234, .ref 75] 0 0 (zS p q I [(75, some 16, fun _ => x24), (75, some 17, fun _ => x25), (75, some 20, fun _ => x27), (75, some 21, fun _ => x31), (75, some 22, fun _ => x28), (75, some 23, fun _ => x26), (75, some 24, fun _ => x34), (75, some 25, fun _ => x30), (75, some 35, fun _ => o231), (75, some 36, fun _ => a1), (75, some 37, fun _ => a2), (75, some 38, fun _ => o232), (75, some 39, fun _ => x23), (88, none, o230), (89, none, x36), (90, none, x32)] J [(75, some 26, fun _ => x37)]))) (zwp_bind h) ?_ (fun h => ?_)
                · rintro j234 h
                  refine z_virt (as := [.int j234]) (a := 75) (r := []) hc rfl rfl rfl rfl sh_75 rfl zco_178 rfl rfl rfl ?_
                  refine ok_X12_waitsFor_75 (zdp hd rfl) (zwp_mono (zwp_bind h) ?_)
                  rintro ⟨o235, o236⟩ h
                  refine z_po (pc' := 179) (st' := []) (v := none) (L' := [(75, some 16, fun _ => x24), (75, some 17, fun _ => x25), (75, some 20, fun _ => x27), (75, some 21, fun _ => x31), (75, some 22, fun _ => x28), (75, some 23, fun _ => x26), (75, some 24, fun _ => x34), (75, some 25, fun _ => x30), (75, some 35, fun _ => o231), (75, some 36, fun _ => a1), (75, some 37, fun _ => a2), (75, some 38, fun _ => o235), (75, some 39, fun _ => x23), (88, none, o230), (89, none, o236), (90, none, x32)]) (K' := [(75, some 26, fun _ => x37)]) zco_178 rfl rfl rfl rfl rfl rfl rfl rfl ?_
                  refine g_aload_n (pc' := 180)  hc rfl rfl rfl rfl ?_
                  refine z_getR (pc' := 183)  hc rfl rfl rfl sh_75 rfl rfl ?_
                  refine g_aload_n (pc' := 184)  hc rfl rfl rfl rfl ?_
                  refine z_getI (pc' := 187) (v := x23) hc rfl rfl rfl sh_75 rfl rfl rfl ?_
                  refine g_iconst (pc' := 188) (v := (1 : Int32)) hc rfl zki_1 rfl ?_
                  have hb := (zwp_bnd h).1
                  replace h := (zwp_bnd h).2
                  refine z_bastore (pc' := 189) (g := x32) (L' := [(75, some 16, fun _ => x24), (75, some 17, fun _ => x25), (75, some 20, fun _ => x27), (75, some 21, fun _ => x31), (75, some 22, fun _ => x28), (75, some 23, fun _ => x26), (75, some 24, fun _ => x34), (75, some 25, fun _ => x30), (75, some 35, fun _ => o231), (75, some 36, fun _ => a1), (75, some 37, fun _ => a2), (75, some 38, fun _ => o235), (75, some 39, fun _ => x23), (88, none, o230), (89, none, o236), (90, none, (upd x32 x23.toNatClampNeg (vp_nar .boolean (1 : Int32))))]) hc rfl rfl sh_90 hb rfl rfl rfl rfl ?_
                  refine g_aload_n (pc' := 190)  hc rfl rfl rfl rfl ?_
                  refine z_virt (as := []) (a := 75) (r := []) hc rfl rfl rfl rfl sh_75 rfl zco_164 rfl rfl rfl ?_
                  refine ok_X12_goes_75 (zdp hd rfl) (zwp_mono (zwp_bind h) ?_)
                  rintro ⟨o237, o238, o239, o240, o241, o242, o243⟩ h
                  refine z_po (pc' := 193) (st' := []) (v := none) (L' := [(75, some 16, fun _ => x24), (75, some 17, fun _ => x25), (75, some 20, fun _ => o238), (75, some 21, fun _ => o241), (75, some 22, fun _ => o239), (75, some 23, fun _ => o237), (75, some 24, fun _ => o242), (75, some 25, fun _ => o240), (75, some 35, fun _ => o231), (75, some 36, fun _ => a1), (75, some 37, fun _ => a2), (75, some 38, fun _ => o235), (75, some 39, fun _ => x23), (88, none, o230), (89, none, o236), (90, none, (upd x32 x23.toNatClampNeg (vp_nar .boolean (1 : Int32))))]) (K' := [(75, some 26, fun _ => o243)]) zco_164 rfl rfl rfl rfl rfl rfl rfl rfl ?_
                  refine g_aload_n (pc' := 194)  hc rfl rfl rfl rfl ?_
                  refine g_iconst (pc' := 195) (v := (0 : Int32)) hc rfl zki_0 rfl ?_
                  refine z_virt (as := [.int (0 : Int32)]) (a := 75) (r := []) hc rfl rfl rfl rfl sh_75 rfl zco_181 rfl rfl rfl ?_
                  refine ok_X12_operand_75 (zdp hd rfl) (zwp_mono (zwp_bind h) ?_)
                  rintro ⟨o244, o245, o246, o247, o248, o249, o250, o251, o252, o253, o254, o255, o256, o257, o258⟩ h
                  refine z_po (pc' := 198) (st' := []) (v := none) (L' := [(75, some 16, fun _ => o245), (75, some 17, fun _ => o246), (75, some 20, fun _ => o248), (75, some 21, fun _ => o252), (75, some 22, fun _ => o249), (75, some 23, fun _ => o247), (75, some 24, fun _ => o255), (75, some 25, fun _ => o251), (75, some 35, fun _ => o254), (75, some 36, fun _ => a1), (75, some 37, fun _ => a2), (75, some 38, fun _ => o256), (75, some 39, fun _ => o244), (88, none, o250), (89, none, o257), (90, none, o253)]) (K' := [(75, some 26, fun _ => o258)]) zco_181 rfl rfl rfl rfl rfl rfl rfl rfl ?_
                  refine g_goto hc rfl ?_
                  refine g_goto hc rfl ?_
                  replace h := zwp_l h
                  exact h (some (.int r66)) rfl
                refine g_if_eq (pc' := 169) hc rfl rfl (fun hx => ?_) (fun hx => ?_)
                · replace h := zwp_t h hx
                  refine g_bipush (pc' := 176) (v := (7 : Int32)) hc rfl zkb_7 rfl ?_
                  replace h := zws h
                  exact h
                · replace h := zwp_f h hx
                  refine g_bipush (pc' := 171) (v := (6 : Int32)) hc rfl zkb_6 rfl ?_
                  refine g_goto hc rfl ?_
                  replace h := zws h
                  exact h
            · replace h := zwp_t h hx
              refine g_aload_n (pc' := 134)  hc rfl rfl rfl rfl ?_
              refine g_bipush (pc' := 136) (v := (61 : Int32)) hc rfl zkb_61 rfl ?_
              refine z_virt (as := [.int (61 : Int32)]) (a := 75) (r := []) hc rfl rfl rfl rfl sh_75 rfl zco_170 rfl rfl rfl ?_
              refine ok_X12_isSign_75 (zdp hd rfl) (zwp_mono (zwp_bind h) ?_)
              rintro r259 h
              refine z_po (pc' := 139) (st' := [.int r259]) (v := (some (.int r259))) (L' := [(75, some 16, fun _ => x24), (75, some 17, fun _ => x25), (75, some 20, fun _ => x27), (75, some 21, fun _ => x31), (75, some 22, fun _ => x28), (75, some 23, fun _ => x26), (75, some 24, fun _ => x34), (75, some 25, fun _ => x30), (75, some 35, fun _ => x33), (75, some 36, fun _ => a1), (75, some 37, fun _ => a2), (75, some 38, fun _ => x35), (75, some 39, fun _ => x23), (88, none, x29), (89, none, x36), (90, none, x32)]) (K' := [(75, some 26, fun _ => x37)]) zco_170 rfl rfl rfl rfl rfl rfl rfl rfl ?_
              refine g_if_eq (pc' := 142) hc rfl rfl (fun hx => ?_) (fun hx => ?_)
              · replace h := zwp_t h hx
                refine g_aload_n (pc' := 202)  hc rfl rfl rfl rfl ?_
                refine g_bipush (pc' := 204) (v := (43 : Int32)) hc rfl zkb_43 rfl ?_
                refine z_virt (as := [.int (43 : Int32)]) (a := 75) (r := []) hc rfl rfl rfl rfl sh_75 rfl zco_170 rfl rfl rfl ?_
                refine ok_X12_isSign_75 (zdp hd rfl) (zwp_mono (zwp_bind h) ?_)
                rintro r260 h
                refine z_po (pc' := 207) (st' := [.int r260]) (v := (some (.int r260))) (L' := [(75, some 16, fun _ => x24), (75, some 17, fun _ => x25), (75, some 20, fun _ => x27), (75, some 21, fun _ => x31), (75, some 22, fun _ => x28), (75, some 23, fun _ => x26), (75, some 24, fun _ => x34), (75, some 25, fun _ => x30), (75, some 35, fun _ => x33), (75, some 36, fun _ => a1), (75, some 37, fun _ => a2), (75, some 38, fun _ => x35), (75, some 39, fun _ => x23), (88, none, x29), (89, none, x36), (90, none, x32)]) (K' := [(75, some 26, fun _ => x37)]) zco_170 rfl rfl rfl rfl rfl rfl rfl rfl ?_
                refine g_if_ne (pc' := 210) hc rfl rfl (fun hx => ?_) (fun hx => ?_)
                · replace h := zwp_f h hx
                  refine g_aload_n (pc' := 220)  hc rfl rfl rfl rfl ?_
                  refine g_iconst (pc' := 221) (v := (5 : Int32)) hc rfl zki_5 rfl ?_
                  refine z_virt (as := [.int (5 : Int32)]) (a := 75) (r := []) hc rfl rfl rfl rfl sh_75 rfl zco_177 rfl rfl rfl ?_
                  refine ok_X12_drops_75 (zdp hd rfl) (zwp_mono (zwp_bind h) ?_)
                  rintro ⟨o261, o262, o263⟩ h
                  refine z_po (pc' := 224) (st' := []) (v := none) (L' := [(75, some 16, fun _ => x24), (75, some 17, fun _ => x25), (75, some 20, fun _ => x27), (75, some 21, fun _ => x31), (75, some 22, fun _ => x28), (75, some 23, fun _ => x26), (75, some 24, fun _ => x34), (75, some 25, fun _ => x30), (75, some 35, fun _ => o262), (75, some 36, fun _ => a1), (75, some 37, fun _ => a2), (75, some 38, fun _ => o263), (75, some 39, fun _ => x23), (88, none, o261), (89, none, x36), (90, none, x32)]) (K' := [(75, some 26, fun _ => x37)]) zco_177 rfl rfl rfl rfl rfl rfl rfl rfl ?_
                  refine g_aload_n (pc' := 225)  hc rfl rfl rfl rfl ?_
                  refine g_aload_n (pc' := 226)  hc rfl rfl rfl rfl ?_
                  refine g_bipush (pc' := 228) (v := (43 : Int32)) hc rfl zkb_43 rfl ?_
                  refine z_virt (as := [.int (43 : Int32)]) (a := 75) (r := [.ref 75]) hc rfl rfl rfl rfl sh_75 rfl zco_170 rfl rfl rfl ?_
                  refine ok_X12_isSign_75 (zdp hd rfl) (zwp_mono (zwp_bind h) ?_)
                  rintro r264 h
                  refine z_po (pc' := 231) (st' := [.int r264, .ref 75]) (v := (some (.int r264))) (L' := [(75, some 16, fun _ => x24), (75, some 17, fun _ => x25), (75, some 20, fun _ => x27), (75, some 21, fun _ => x31), (75, some 22, fun _ => x28), (75, some 23, fun _ => x26), (75, some 24, fun _ => x34), (75, some 25, fun _ => x30), (75, some 35, fun _ => o262), (75, some 36, fun _ => a1), (75, some 37, fun _ => a2), (75, some 38, fun _ => o263), (75, some 39, fun _ => x23), (88, none, o261), (89, none, x36), (90, none, x32)]) (K' := [(75, some 26, fun _ => x37)]) zco_170 rfl rfl rfl rfl rfl rfl rfl rfl ?_
                  refine zjn (G := (fun (j265 : Int32) => pm_ev C_X12_expression (d + 1) (pm_call M cost zext d) cost (false, false) 108 0 0 Q 241 [some (.ref 75), some (.int a1), some (.int a2), some (.int x21), some (.int r66)] [.int j265, .ref 75] 0 0 (zS p q I [(75, some 16, fun _ => x24), (75, some 17, fun _ => x25), (75, some 20, fun _ => x27), (75, some 21, fun _ => x31), (75, some 22, fun _ => x28), (75, some 23, fun _ => x26), (75, some 24, fun _ => x34), (75, some 25, fun _ => x30), (75, some 35, fun _ => o262), (75, some 36, fun _ => a1), (75, some 37, fun _ => a2), (75, some 38, fun _ => o263), (75, some 39, fun _ => x23), (88, none, o261), (89, none, x36), (90, none, x32)] J [(75, some 26, fun _ => x37)]))) (zwp_bind h) ?_ (fun h => ?_)
                  · rintro j265 h
                    refine z_virt (as := [.int j265]) (a := 75) (r := []) hc rfl rfl rfl rfl sh_75 rfl zco_178 rfl rfl rfl ?_
                    refine ok_X12_waitsFor_75 (zdp hd rfl) (zwp_mono (zwp_bind h) ?_)
                    rintro ⟨o266, o267⟩ h
                    refine z_po (pc' := 244) (st' := []) (v := none) (L' := [(75, some 16, fun _ => x24), (75, some 17, fun _ => x25), (75, some 20, fun _ => x27), (75, some 21, fun _ => x31), (75, some 22, fun _ => x28), (75, some 23, fun _ => x26), (75, some 24, fun _ => x34), (75, some 25, fun _ => x30), (75, some 35, fun _ => o262), (75, some 36, fun _ => a1), (75, some 37, fun _ => a2), (75, some 38, fun _ => o266), (75, some 39, fun _ => x23), (88, none, o261), (89, none, o267), (90, none, x32)]) (K' := [(75, some 26, fun _ => x37)]) zco_178 rfl rfl rfl rfl rfl rfl rfl rfl ?_
                    refine g_aload_n (pc' := 245)  hc rfl rfl rfl rfl ?_
                    refine z_virt (as := []) (a := 75) (r := []) hc rfl rfl rfl rfl sh_75 rfl zco_164 rfl rfl rfl ?_
                    refine ok_X12_goes_75 (zdp hd rfl) (zwp_mono (zwp_bind h) ?_)
                    rintro ⟨o268, o269, o270, o271, o272, o273, o274⟩ h
                    refine z_po (pc' := 248) (st' := []) (v := none) (L' := [(75, some 16, fun _ => x24), (75, some 17, fun _ => x25), (75, some 20, fun _ => o269), (75, some 21, fun _ => o272), (75, some 22, fun _ => o270), (75, some 23, fun _ => o268), (75, some 24, fun _ => o273), (75, some 25, fun _ => o271), (75, some 35, fun _ => o262), (75, some 36, fun _ => a1), (75, some 37, fun _ => a2), (75, some 38, fun _ => o266), (75, some 39, fun _ => x23), (88, none, o261), (89, none, o267), (90, none, x32)]) (K' := [(75, some 26, fun _ => o274)]) zco_164 rfl rfl rfl rfl rfl rfl rfl rfl ?_
                    refine g_aload_n (pc' := 249)  hc rfl rfl rfl rfl ?_
                    refine g_iconst (pc' := 250) (v := (0 : Int32)) hc rfl zki_0 rfl ?_
                    refine z_virt (as := [.int (0 : Int32)]) (a := 75) (r := []) hc rfl rfl rfl rfl sh_75 rfl zco_181 rfl rfl rfl ?_
                    refine ok_X12_operand_75 (zdp hd rfl) (zwp_mono (zwp_bind h) ?_)
                    rintro ⟨o275, o276, o277, o278, o279, o280, o281, o282, o283, o284, o285, o286, o287, o288, o289⟩ h
                    refine z_po (pc' := 253) (st' := []) (v := none) (L' := [(75, some 16, fun _ => o276), (75, some 17, fun _ => o277), (75, some 20, fun _ => o279), (75, some 21, fun _ => o283), (75, some 22, fun _ => o280), (75, some 23, fun _ => o278), (75, some 24, fun _ => o286), (75, some 25, fun _ => o282), (75, some 35, fun _ => o285), (75, some 36, fun _ => a1), (75, some 37, fun _ => a2), (75, some 38, fun _ => o287), (75, some 39, fun _ => o275), (88, none, o281), (89, none, o288), (90, none, o284)]) (K' := [(75, some 26, fun _ => o289)]) zco_181 rfl rfl rfl rfl rfl rfl rfl rfl ?_
                    refine g_goto hc rfl ?_
                    refine g_goto hc rfl ?_
                    replace h := zwp_l h
                    exact h (some (.int r66)) rfl
                  refine g_if_eq (pc' := 234) hc rfl rfl (fun hx => ?_) (fun hx => ?_)
                  · replace h := zwp_t h hx
                    refine g_bipush (pc' := 241) (v := (9 : Int32)) hc rfl zkb_9 rfl ?_
                    replace h := zws h
                    exact h
                  · replace h := zwp_f h hx
                    refine g_bipush (pc' := 236) (v := (8 : Int32)) hc rfl zkb_8 rfl ?_
                    refine g_goto hc rfl ?_
                    replace h := zws h
                    exact h
                · replace h := zwp_t h hx
                  refine g_aload_n (pc' := 211)  hc rfl rfl rfl rfl ?_
                  refine g_bipush (pc' := 213) (v := (45 : Int32)) hc rfl zkb_45 rfl ?_
                  refine z_virt (as := [.int (45 : Int32)]) (a := 75) (r := []) hc rfl rfl rfl rfl sh_75 rfl zco_170 rfl rfl rfl ?_
                  refine ok_X12_isSign_75 (zdp hd rfl) (zwp_mono (zwp_bind h) ?_)
                  rintro r290 h
                  refine z_po (pc' := 216) (st' := [.int r290]) (v := (some (.int r290))) (L' := [(75, some 16, fun _ => x24), (75, some 17, fun _ => x25), (75, some 20, fun _ => x27), (75, some 21, fun _ => x31), (75, some 22, fun _ => x28), (75, some 23, fun _ => x26), (75, some 24, fun _ => x34), (75, some 25, fun _ => x30), (75, some 35, fun _ => x33), (75, some 36, fun _ => a1), (75, some 37, fun _ => a2), (75, some 38, fun _ => x35), (75, some 39, fun _ => x23), (88, none, x29), (89, none, x36), (90, none, x32)]) (K' := [(75, some 26, fun _ => x37)]) zco_170 rfl rfl rfl rfl rfl rfl rfl rfl ?_
                  refine g_if_eq (pc' := 219) hc rfl rfl (fun hx => ?_) (fun hx => ?_)
                  · replace h := zwp_t h hx
                    refine g_aload_n (pc' := 257)  hc rfl rfl rfl rfl ?_
                    refine g_bipush (pc' := 259) (v := (42 : Int32)) hc rfl zkb_42 rfl ?_
                    refine z_virt (as := [.int (42 : Int32)]) (a := 75) (r := []) hc rfl rfl rfl rfl sh_75 rfl zco_170 rfl rfl rfl ?_
                    refine ok_X12_isSign_75 (zdp hd rfl) (zwp_mono (zwp_bind h) ?_)
                    rintro r291 h
                    refine z_po (pc' := 262) (st' := [.int r291]) (v := (some (.int r291))) (L' := [(75, some 16, fun _ => x24), (75, some 17, fun _ => x25), (75, some 20, fun _ => x27), (75, some 21, fun _ => x31), (75, some 22, fun _ => x28), (75, some 23, fun _ => x26), (75, some 24, fun _ => x34), (75, some 25, fun _ => x30), (75, some 35, fun _ => x33), (75, some 36, fun _ => a1), (75, some 37, fun _ => a2), (75, some 38, fun _ => x35), (75, some 39, fun _ => x23), (88, none, x29), (89, none, x36), (90, none, x32)]) (K' := [(75, some 26, fun _ => x37)]) zco_170 rfl rfl rfl rfl rfl rfl rfl rfl ?_
                    refine g_if_ne (pc' := 265) hc rfl rfl (fun hx => ?_) (fun hx => ?_)
                    · replace h := zwp_f h hx
                      refine g_aload_n (pc' := 275)  hc rfl rfl rfl rfl ?_
                      refine g_bipush (pc' := 277) (v := (6 : Int32)) hc rfl zkb_6 rfl ?_
                      refine z_virt (as := [.int (6 : Int32)]) (a := 75) (r := []) hc rfl rfl rfl rfl sh_75 rfl zco_177 rfl rfl rfl ?_
                      refine ok_X12_drops_75 (zdp hd rfl) (zwp_mono (zwp_bind h) ?_)
                      rintro ⟨o292, o293, o294⟩ h
                      refine z_po (pc' := 280) (st' := []) (v := none) (L' := [(75, some 16, fun _ => x24), (75, some 17, fun _ => x25), (75, some 20, fun _ => x27), (75, some 21, fun _ => x31), (75, some 22, fun _ => x28), (75, some 23, fun _ => x26), (75, some 24, fun _ => x34), (75, some 25, fun _ => x30), (75, some 35, fun _ => o293), (75, some 36, fun _ => a1), (75, some 37, fun _ => a2), (75, some 38, fun _ => o294), (75, some 39, fun _ => x23), (88, none, o292), (89, none, x36), (90, none, x32)]) (K' := [(75, some 26, fun _ => x37)]) zco_177 rfl rfl rfl rfl rfl rfl rfl rfl ?_
                      refine g_aload_n (pc' := 281)  hc rfl rfl rfl rfl ?_
                      refine g_aload_n (pc' := 282)  hc rfl rfl rfl rfl ?_
                      refine g_bipush (pc' := 284) (v := (42 : Int32)) hc rfl zkb_42 rfl ?_
                      refine z_virt (as := [.int (42 : Int32)]) (a := 75) (r := [.ref 75]) hc rfl rfl rfl rfl sh_75 rfl zco_170 rfl rfl rfl ?_
                      refine ok_X12_isSign_75 (zdp hd rfl) (zwp_mono (zwp_bind h) ?_)
                      rintro r295 h
                      refine z_po (pc' := 287) (st' := [.int r295, .ref 75]) (v := (some (.int r295))) (L' := [(75, some 16, fun _ => x24), (75, some 17, fun _ => x25), (75, some 20, fun _ => x27), (75, some 21, fun _ => x31), (75, some 22, fun _ => x28), (75, some 23, fun _ => x26), (75, some 24, fun _ => x34), (75, some 25, fun _ => x30), (75, some 35, fun _ => o293), (75, some 36, fun _ => a1), (75, some 37, fun _ => a2), (75, some 38, fun _ => o294), (75, some 39, fun _ => x23), (88, none, o292), (89, none, x36), (90, none, x32)]) (K' := [(75, some 26, fun _ => x37)]) zco_170 rfl rfl rfl rfl rfl rfl rfl rfl ?_
                      refine zjn (G := (fun (j296 : Int32) => pm_ev C_X12_expression (d + 1) (pm_call M cost zext d) cost (false, false) 108 0 0 Q 297 [some (.ref 75), some (.int a1), some (.int a2), some (.int x21), some (.int r66)] [.int j296, .ref 75] 0 0 (zS p q I [(75, some 16, fun _ => x24), (75, some 17, fun _ => x25), (75, some 20, fun _ => x27), (75, some 21, fun _ => x31), (75, some 22, fun _ => x28), (75, some 23, fun _ => x26), (75, some 24, fun _ => x34), (75, some 25, fun _ => x30), (75, some 35, fun _ => o293), (75, some 36, fun _ => a1), (75, some 37, fun _ => a2), (75, some 38, fun _ => o294), (75, some 39, fun _ => x23), (88, none, o292), (89, none, x36), (90, none, x32)] J [(75, some 26, fun _ => x37)]))) (zwp_bind h) ?_ (fun h => ?_)
                      · rintro j296 h
                        refine z_virt (as := [.int j296]) (a := 75) (r := []) hc rfl rfl rfl rfl sh_75 rfl zco_178 rfl rfl rfl ?_
                        refine ok_X12_waitsFor_75 (zdp hd rfl) (zwp_mono (zwp_bind h) ?_)
                        rintro ⟨o297, o298⟩ h
                        refine z_po (pc' := 300) (st' := []) (v := none) (L' := [(75, some 16, fun _ => x24), (75, some 17, fun _ => x25), (75, some 20, fun _ => x27), (75, some 21, fun _ => x31), (75, some 22, fun _ => x28), (75, some 23, fun _ => x26), (75, some 24, fun _ => x34), (75, some 25, fun _ => x30), (75, some 35, fun _ => o293), (75, some 36, fun _ => a1), (75, some 37, fun _ => a2), (75, some 38, fun _ => o297), (75, some 39, fun _ => x23), (88, none, o292), (89, none, o298), (90, none, x32)]) (K' := [(75, some 26, fun _ => x37)]) zco_178 rfl rfl rfl rfl rfl rfl rfl rfl ?_
                        refine g_aload_n (pc' := 301)  hc rfl rfl rfl rfl ?_
                        refine z_virt (as := []) (a := 75) (r := []) hc rfl rfl rfl rfl sh_75 rfl zco_164 rfl rfl rfl ?_
                        refine ok_X12_goes_75 (zdp hd rfl) (zwp_mono (zwp_bind h) ?_)
                        rintro ⟨o299, o300, o301, o302, o303, o304, o305⟩ h
                        refine z_po (pc' := 304) (st' := []) (v := none) (L' := [(75, some 16, fun _ => x24), (75, some 17, fun _ => x25), (75, some 20, fun _ => o300), (75, some 21, fun _ => o303), (75, some 22, fun _ => o301), (75, some 23, fun _ => o299), (75, some 24, fun _ => o304), (75, some 25, fun _ => o302), (75, some 35, fun _ => o293), (75, some 36, fun _ => a1), (75, some 37, fun _ => a2), (75, some 38, fun _ => o297), (75, some 39, fun _ => x23), (88, none, o292), (89, none, o298), (90, none, x32)]) (K' := [(75, some 26, fun _ => o305)]) zco_164 rfl rfl rfl rfl rfl rfl rfl rfl ?_
                        refine g_aload_n (pc' := 305)  hc rfl rfl rfl rfl ?_
                        refine g_iconst (pc' := 306) (v := (0 : Int32)) hc rfl zki_0 rfl ?_
                        refine z_virt (as := [.int (0 : Int32)]) (a := 75) (r := []) hc rfl rfl rfl rfl sh_75 rfl zco_181 rfl rfl rfl ?_
                        refine ok_X12_operand_75 (zdp hd rfl) (zwp_mono (zwp_bind h) ?_)
                        rintro ⟨o306, o307, o308, o309, o310, o311, o312, o313, o314, o315, o316, o317, o318, o319, o320⟩ h
                        refine z_po (pc' := 309) (st' := []) (v := none) (L' := [(75, some 16, fun _ => o307), (75, some 17, fun _ => o308), (75, some 20, fun _ => o310), (75, some 21, fun _ => o314), (75, some 22, fun _ => o311), (75, some 23, fun _ => o309), (75, some 24, fun _ => o317), (75, some 25, fun _ => o313), (75, some 35, fun _ => o316), (75, some 36, fun _ => a1), (75, some 37, fun _ => a2), (75, some 38, fun _ => o318), (75, some 39, fun _ => o306), (88, none, o312), (89, none, o319), (90, none, o315)]) (K' := [(75, some 26, fun _ => o320)]) zco_181 rfl rfl rfl rfl rfl rfl rfl rfl ?_
                        refine g_goto hc rfl ?_
                        refine g_goto hc rfl ?_
                        replace h := zwp_l h
                        exact h (some (.int r66)) rfl
                      refine g_if_eq (pc' := 290) hc rfl rfl (fun hx => ?_) (fun hx => ?_)
                      · replace h := zwp_t h hx
                        refine g_bipush (pc' := 297) (v := (11 : Int32)) hc rfl zkb_11 rfl ?_
                        replace h := zws h
                        exact h
                      · replace h := zwp_f h hx
                        refine g_bipush (pc' := 292) (v := (10 : Int32)) hc rfl zkb_10 rfl ?_
                        refine g_goto hc rfl ?_
                        replace h := zws h
                        exact h
                    · replace h := zwp_t h hx
                      refine g_aload_n (pc' := 266)  hc rfl rfl rfl rfl ?_
                      refine g_bipush (pc' := 268) (v := (47 : Int32)) hc rfl zkb_47 rfl ?_
                      refine z_virt (as := [.int (47 : Int32)]) (a := 75) (r := []) hc rfl rfl rfl rfl sh_75 rfl zco_170 rfl rfl rfl ?_
                      refine ok_X12_isSign_75 (zdp hd rfl) (zwp_mono (zwp_bind h) ?_)
                      rintro r321 h
                      refine z_po (pc' := 271) (st' := [.int r321]) (v := (some (.int r321))) (L' := [(75, some 16, fun _ => x24), (75, some 17, fun _ => x25), (75, some 20, fun _ => x27), (75, some 21, fun _ => x31), (75, some 22, fun _ => x28), (75, some 23, fun _ => x26), (75, some 24, fun _ => x34), (75, some 25, fun _ => x30), (75, some 35, fun _ => x33), (75, some 36, fun _ => a1), (75, some 37, fun _ => a2), (75, some 38, fun _ => x35), (75, some 39, fun _ => x23), (88, none, x29), (89, none, x36), (90, none, x32)]) (K' := [(75, some 26, fun _ => x37)]) zco_170 rfl rfl rfl rfl rfl rfl rfl rfl ?_
                      refine g_if_eq (pc' := 274) hc rfl rfl (fun hx => ?_) (fun hx => ?_)
                      · replace h := zwp_t h hx
                        refine g_aload_n (pc' := 313)  hc rfl rfl rfl rfl ?_
                        refine g_bipush (pc' := 315) (v := (41 : Int32)) hc rfl zkb_41 rfl ?_
                        refine z_virt (as := [.int (41 : Int32)]) (a := 75) (r := []) hc rfl rfl rfl rfl sh_75 rfl zco_170 rfl rfl rfl ?_
                        refine ok_X12_isSign_75 (zdp hd rfl) (zwp_mono (zwp_bind h) ?_)
                        rintro r322 h
                        refine z_po (pc' := 318) (st' := [.int r322]) (v := (some (.int r322))) (L' := [(75, some 16, fun _ => x24), (75, some 17, fun _ => x25), (75, some 20, fun _ => x27), (75, some 21, fun _ => x31), (75, some 22, fun _ => x28), (75, some 23, fun _ => x26), (75, some 24, fun _ => x34), (75, some 25, fun _ => x30), (75, some 35, fun _ => x33), (75, some 36, fun _ => a1), (75, some 37, fun _ => a2), (75, some 38, fun _ => x35), (75, some 39, fun _ => x23), (88, none, x29), (89, none, x36), (90, none, x32)]) (K' := [(75, some 26, fun _ => x37)]) zco_170 rfl rfl rfl rfl rfl rfl rfl rfl ?_
                        refine g_if_eq (pc' := 321) hc rfl rfl (fun hx => ?_) (fun hx => ?_)
                        · replace h := zwp_t h hx
                          refine g_iconst (pc' := 336) (v := (0 : Int32)) hc rfl zki_0 rfl ?_
                          refine g_istore_n (pc' := 337) (ls1 := [some (.ref 75), some (.int a1), some (.int a2), some (.int (0 : Int32)), some (.int r66)]) hc rfl (zlt rfl) rfl rfl ?_
                          refine g_goto hc rfl ?_
                          replace h := zwp_l h
                          exact h (some (.int r66)) rfl
                        · replace h := zwp_f h hx
                          refine g_aload_n (pc' := 322)  hc rfl rfl rfl rfl ?_
                          refine z_virt (as := []) (a := 75) (r := []) hc rfl rfl rfl rfl sh_75 rfl zco_182 rfl rfl rfl ?_
                          refine ok_X12_isOpened_75 (zdp hd rfl) (zwp_mono (zwp_bind h) ?_)
                          rintro r323 h
                          refine z_po (pc' := 325) (st' := [.int r323]) (v := (some (.int r323))) (L' := [(75, some 16, fun _ => x24), (75, some 17, fun _ => x25), (75, some 20, fun _ => x27), (75, some 21, fun _ => x31), (75, some 22, fun _ => x28), (75, some 23, fun _ => x26), (75, some 24, fun _ => x34), (75, some 25, fun _ => x30), (75, some 35, fun _ => x33), (75, some 36, fun _ => a1), (75, some 37, fun _ => a2), (75, some 38, fun _ => x35), (75, some 39, fun _ => x23), (88, none, x29), (89, none, x36), (90, none, x32)]) (K' := [(75, some 26, fun _ => x37)]) zco_182 rfl rfl rfl rfl rfl rfl rfl rfl ?_
                          refine g_if_eq (pc' := 328) hc rfl rfl (fun hx => ?_) (fun hx => ?_)
                          · replace h := zwp_t h hx
                            refine g_iconst (pc' := 336) (v := (0 : Int32)) hc rfl zki_0 rfl ?_
                            refine g_istore_n (pc' := 337) (ls1 := [some (.ref 75), some (.int a1), some (.int a2), some (.int (0 : Int32)), some (.int r66)]) hc rfl (zlt rfl) rfl rfl ?_
                            refine g_goto hc rfl ?_
                            replace h := zwp_l h
                            exact h (some (.int r66)) rfl
                          · replace h := zwp_f h hx
                            refine g_aload_n (pc' := 329)  hc rfl rfl rfl rfl ?_
                            refine z_virt (as := []) (a := 75) (r := []) hc rfl rfl rfl rfl sh_75 rfl zco_183 rfl rfl rfl ?_
                            refine ok_X12_closes_75 (zdp hd rfl) (zwp_mono (zwp_bind h) ?_)
                            rintro ⟨o324, o325, o326, o327, o328, o329, o330, o331, o332, o333, o334⟩ h
                            refine z_po (pc' := 332) (st' := []) (v := none) (L' := [(75, some 16, fun _ => x24), (75, some 17, fun _ => x25), (75, some 20, fun _ => o326), (75, some 21, fun _ => o330), (75, some 22, fun _ => o327), (75, some 23, fun _ => o325), (75, some 24, fun _ => o332), (75, some 25, fun _ => o329), (75, some 35, fun _ => o331), (75, some 36, fun _ => a1), (75, some 37, fun _ => a2), (75, some 38, fun _ => o333), (75, some 39, fun _ => o324), (88, none, o328), (89, none, x36), (90, none, x32)]) (K' := [(75, some 26, fun _ => o334)]) zco_183 rfl rfl rfl rfl rfl rfl rfl rfl ?_
                            refine g_goto hc rfl ?_
                            refine g_goto hc rfl ?_
                            replace h := zwp_l h
                            exact h (some (.int r66)) rfl
                      · replace h := zwp_f h hx
                        refine g_aload_n (pc' := 275)  hc rfl rfl rfl rfl ?_
                        refine g_bipush (pc' := 277) (v := (6 : Int32)) hc rfl zkb_6 rfl ?_
                        refine z_virt (as := [.int (6 : Int32)]) (a := 75) (r := []) hc rfl rfl rfl rfl sh_75 rfl zco_177 rfl rfl rfl ?_
                        refine ok_X12_drops_75 (zdp hd rfl) (zwp_mono (zwp_bind h) ?_)
                        rintro ⟨o335, o336, o337⟩ h
                        refine z_po (pc' := 280) (st' := []) (v := none) (L' := [(75, some 16, fun _ => x24), (75, some 17, fun _ => x25), (75, some 20, fun _ => x27), (75, some 21, fun _ => x31), (75, some 22, fun _ => x28), (75, some 23, fun _ => x26), (75, some 24, fun _ => x34), (75, some 25, fun _ => x30), (75, some 35, fun _ => o336), (75, some 36, fun _ => a1), (75, some 37, fun _ => a2), (75, some 38, fun _ => o337), (75, some 39, fun _ => x23), (88, none, o335), (89, none, x36), (90, none, x32)]) (K' := [(75, some 26, fun _ => x37)]) zco_177 rfl rfl rfl rfl rfl rfl rfl rfl ?_
                        refine g_aload_n (pc' := 281)  hc rfl rfl rfl rfl ?_
                        refine g_aload_n (pc' := 282)  hc rfl rfl rfl rfl ?_
                        refine g_bipush (pc' := 284) (v := (42 : Int32)) hc rfl zkb_42 rfl ?_
                        refine z_virt (as := [.int (42 : Int32)]) (a := 75) (r := [.ref 75]) hc rfl rfl rfl rfl sh_75 rfl zco_170 rfl rfl rfl ?_
                        refine ok_X12_isSign_75 (zdp hd rfl) (zwp_mono (zwp_bind h) ?_)
                        rintro r338 h
                        refine z_po (pc' := 287) (st' := [.int r338, .ref 75]) (v := (some (.int r338))) (L' := [(75, some 16, fun _ => x24), (75, some 17, fun _ => x25), (75, some 20, fun _ => x27), (75, some 21, fun _ => x31), (75, some 22, fun _ => x28), (75, some 23, fun _ => x26), (75, some 24, fun _ => x34), (75, some 25, fun _ => x30), (75, some 35, fun _ => o336), (75, some 36, fun _ => a1), (75, some 37, fun _ => a2), (75, some 38, fun _ => o337), (75, some 39, fun _ => x23), (88, none, o335), (89, none, x36), (90, none, x32)]) (K' := [(75, some 26, fun _ => x37)]) zco_170 rfl rfl rfl rfl rfl rfl rfl rfl ?_
                        refine zjn (G := (fun (j339 : Int32) => pm_ev C_X12_expression (d + 1) (pm_call M cost zext d) cost (false, false) 108 0 0 Q 297 [some (.ref 75), some (.int a1), some (.int a2), some (.int x21), some (.int r66)] [.int j339, .ref 75] 0 0 (zS p q I [(75, some 16, fun _ => x24), (75, some 17, fun _ => x25), (75, some 20, fun _ => x27), (75, some 21, fun _ => x31), (75, some 22, fun _ => x28), (75, some 23, fun _ => x26), (75, some 24, fun _ => x34), (75, some 25, fun _ => x30), (75, some 35, fun _ => o336), (75, some 36, fun _ => a1), (75, some 37, fun _ => a2), (75, some 38, fun _ => o337), (75, some 39, fun _ => x23), (88, none, o335), (89, none, x36), (90, none, x32)] J [(75, some 26, fun _ => x37)]))) (zwp_bind h) ?_ (fun h => ?_)
                        · rintro j339 h
                          refine z_virt (as := [.int j339]) (a := 75) (r := []) hc rfl rfl rfl rfl sh_75 rfl zco_178 rfl rfl rfl ?_
                          refine ok_X12_waitsFor_75 (zdp hd rfl) (zwp_mono (zwp_bind h) ?_)
                          rintro ⟨o340, o341⟩ h
                          refine z_po (pc' := 300) (st' := []) (v := none) (L' := [(75, some 16, fun _ => x24), (75, some 17, fun _ => x25), (75, some 20, fun _ => x27), (75, some 21, fun _ => x31), (75, some 22, fun _ => x28), (75, some 23, fun _ => x26), (75, some 24, fun _ => x34), (75, some 25, fun _ => x30), (75, some 35, fun _ => o336), (75, some 36, fun _ => a1), (75, some 37, fun _ => a2), (75, some 38, fun _ => o340), (75, some 39, fun _ => x23), (88, none, o335), (89, none, o341), (90, none, x32)]) (K' := [(75, some 26, fun _ => x37)]) zco_178 rfl rfl rfl rfl rfl rfl rfl rfl ?_
                          refine g_aload_n (pc' := 301)  hc rfl rfl rfl rfl ?_
                          refine z_virt (as := []) (a := 75) (r := []) hc rfl rfl rfl rfl sh_75 rfl zco_164 rfl rfl rfl ?_
                          refine ok_X12_goes_75 (zdp hd rfl) (zwp_mono (zwp_bind h) ?_)
                          rintro ⟨o342, o343, o344, o345, o346, o347, o348⟩ h
                          refine z_po (pc' := 304) (st' := []) (v := none) (L' := [(75, some 16, fun _ => x24), (75, some 17, fun _ => x25), (75, some 20, fun _ => o343), (75, some 21, fun _ => o346), (75, some 22, fun _ => o344), (75, some 23, fun _ => o342), (75, some 24, fun _ => o347), (75, some 25, fun _ => o345), (75, some 35, fun _ => o336), (75, some 36, fun _ => a1), (75, some 37, fun _ => a2), (75, some 38, fun _ => o340), (75, some 39, fun _ => x23), (88, none, o335), (89, none, o341), (90, none, x32)]) (K' := [(75, some 26, fun _ => o348)]) zco_164 rfl rfl rfl rfl rfl rfl rfl rfl ?_
                          refine g_aload_n (pc' := 305)  hc rfl rfl rfl rfl ?_
                          refine g_iconst (pc' := 306) (v := (0 : Int32)) hc rfl zki_0 rfl ?_
                          refine z_virt (as := [.int (0 : Int32)]) (a := 75) (r := []) hc rfl rfl rfl rfl sh_75 rfl zco_181 rfl rfl rfl ?_
                          refine ok_X12_operand_75 (zdp hd rfl) (zwp_mono (zwp_bind h) ?_)
                          rintro ⟨o349, o350, o351, o352, o353, o354, o355, o356, o357, o358, o359, o360, o361, o362, o363⟩ h
                          refine z_po (pc' := 309) (st' := []) (v := none) (L' := [(75, some 16, fun _ => o350), (75, some 17, fun _ => o351), (75, some 20, fun _ => o353), (75, some 21, fun _ => o357), (75, some 22, fun _ => o354), (75, some 23, fun _ => o352), (75, some 24, fun _ => o360), (75, some 25, fun _ => o356), (75, some 35, fun _ => o359), (75, some 36, fun _ => a1), (75, some 37, fun _ => a2), (75, some 38, fun _ => o361), (75, some 39, fun _ => o349), (88, none, o355), (89, none, o362), (90, none, o358)]) (K' := [(75, some 26, fun _ => o363)]) zco_181 rfl rfl rfl rfl rfl rfl rfl rfl ?_
                          refine g_goto hc rfl ?_
                          refine g_goto hc rfl ?_
                          replace h := zwp_l h
                          exact h (some (.int r66)) rfl
                        refine g_if_eq (pc' := 290) hc rfl rfl (fun hx => ?_) (fun hx => ?_)
                        · replace h := zwp_t h hx
                          refine g_bipush (pc' := 297) (v := (11 : Int32)) hc rfl zkb_11 rfl ?_
                          replace h := zws h
                          exact h
                        · replace h := zwp_f h hx
                          refine g_bipush (pc' := 292) (v := (10 : Int32)) hc rfl zkb_10 rfl ?_
                          refine g_goto hc rfl ?_
                          replace h := zws h
                          exact h
                  · replace h := zwp_f h hx
                    refine g_aload_n (pc' := 220)  hc rfl rfl rfl rfl ?_
                    refine g_iconst (pc' := 221) (v := (5 : Int32)) hc rfl zki_5 rfl ?_
                    refine z_virt (as := [.int (5 : Int32)]) (a := 75) (r := []) hc rfl rfl rfl rfl sh_75 rfl zco_177 rfl rfl rfl ?_
                    refine ok_X12_drops_75 (zdp hd rfl) (zwp_mono (zwp_bind h) ?_)
                    rintro ⟨o364, o365, o366⟩ h
                    refine z_po (pc' := 224) (st' := []) (v := none) (L' := [(75, some 16, fun _ => x24), (75, some 17, fun _ => x25), (75, some 20, fun _ => x27), (75, some 21, fun _ => x31), (75, some 22, fun _ => x28), (75, some 23, fun _ => x26), (75, some 24, fun _ => x34), (75, some 25, fun _ => x30), (75, some 35, fun _ => o365), (75, some 36, fun _ => a1), (75, some 37, fun _ => a2), (75, some 38, fun _ => o366), (75, some 39, fun _ => x23), (88, none, o364), (89, none, x36), (90, none, x32)]) (K' := [(75, some 26, fun _ => x37)]) zco_177 rfl rfl rfl rfl rfl rfl rfl rfl ?_
                    refine g_aload_n (pc' := 225)  hc rfl rfl rfl rfl ?_
                    refine g_aload_n (pc' := 226)  hc rfl rfl rfl rfl ?_
                    refine g_bipush (pc' := 228) (v := (43 : Int32)) hc rfl zkb_43 rfl ?_
                    refine z_virt (as := [.int (43 : Int32)]) (a := 75) (r := [.ref 75]) hc rfl rfl rfl rfl sh_75 rfl zco_170 rfl rfl rfl ?_
                    refine ok_X12_isSign_75 (zdp hd rfl) (zwp_mono (zwp_bind h) ?_)
                    rintro r367 h
                    refine z_po (pc' := 231) (st' := [.int r367, .ref 75]) (v := (some (.int r367))) (L' := [(75, some 16, fun _ => x24), (75, some 17, fun _ => x25), (75, some 20, fun _ => x27), (75, some 21, fun _ => x31), (75, some 22, fun _ => x28), (75, some 23, fun _ => x26), (75, some 24, fun _ => x34), (75, some 25, fun _ => x30), (75, some 35, fun _ => o365), (75, some 36, fun _ => a1), (75, some 37, fun _ => a2), (75, some 38, fun _ => o366), (75, some 39, fun _ => x23), (88, none, o364), (89, none, x36), (90, none, x32)]) (K' := [(75, some 26, fun _ => x37)]) zco_170 rfl rfl rfl rfl rfl rfl rfl rfl ?_
                    refine zjn (G := (fun (j368 : Int32) => pm_ev C_X12_expression (d + 1) (pm_call M cost zext d) cost (false, false) 108 0 0 Q 241 [some (.ref 75), some (.int a1), some (.int a2), some (.int x21), some (.int r66)] [.int j368, .ref 75] 0 0 (zS p q I [(75, some 16, fun _ => x24), (75, some 17, fun _ => x25), (75, some 20, fun _ => x27), (75, some 21, fun _ => x31), (75, some 22, fun _ => x28), (75, some 23, fun _ => x26), (75, some 24, fun _ => x34), (75, some 25, fun _ => x30), (75, some 35, fun _ => o365), (75, some 36, fun _ => a1), (75, some 37, fun _ => a2), (75, some 38, fun _ => o366), (75, some 39, fun _ => x23), (88, none, o364), (89, none, x36), (90, none, x32)] J [(75, some 26, fun _ => x37)]))) (zwp_bind h) ?_ (fun h => ?_)
                    · rintro j368 h
                      refine z_virt (as := [.int j368]) (a := 75) (r := []) hc rfl rfl rfl rfl sh_75 rfl zco_178 rfl rfl rfl ?_
                      refine ok_X12_waitsFor_75 (zdp hd rfl) (zwp_mono (zwp_bind h) ?_)
                      rintro ⟨o369, o370⟩ h
                      refine z_po (pc' := 244) (st' := []) (v := none) (L' := [(75, some 16, fun _ => x24), (75, some 17, fun _ => x25), (75, some 20, fun _ => x27), (75, some 21, fun _ => x31), (75, some 22, fun _ => x28), (75, some 23, fun _ => x26), (75, some 24, fun _ => x34), (75, some 25, fun _ => x30), (75, some 35, fun _ => o365), (75, some 36, fun _ => a1), (75, some 37, fun _ => a2), (75, some 38, fun _ => o369), (75, some 39, fun _ => x23), (88, none, o364), (89, none, o370), (90, none, x32)]) (K' := [(75, some 26, fun _ => x37)]) zco_178 rfl rfl rfl rfl rfl rfl rfl rfl ?_
                      refine g_aload_n (pc' := 245)  hc rfl rfl rfl rfl ?_
                      refine z_virt (as := []) (a := 75) (r := []) hc rfl rfl rfl rfl sh_75 rfl zco_164 rfl rfl rfl ?_
                      refine ok_X12_goes_75 (zdp hd rfl) (zwp_mono (zwp_bind h) ?_)
                      rintro ⟨o371, o372, o373, o374, o375, o376, o377⟩ h
                      refine z_po (pc' := 248) (st' := []) (v := none) (L' := [(75, some 16, fun _ => x24), (75, some 17, fun _ => x25), (75, some 20, fun _ => o372), (75, some 21, fun _ => o375), (75, some 22, fun _ => o373), (75, some 23, fun _ => o371), (75, some 24, fun _ => o376), (75, some 25, fun _ => o374), (75, some 35, fun _ => o365), (75, some 36, fun _ => a1), (75, some 37, fun _ => a2), (75, some 38, fun _ => o369), (75, some 39, fun _ => x23), (88, none, o364), (89, none, o370), (90, none, x32)]) (K' := [(75, some 26, fun _ => o377)]) zco_164 rfl rfl rfl rfl rfl rfl rfl rfl ?_
                      refine g_aload_n (pc' := 249)  hc rfl rfl rfl rfl ?_
                      refine g_iconst (pc' := 250) (v := (0 : Int32)) hc rfl zki_0 rfl ?_
                      refine z_virt (as := [.int (0 : Int32)]) (a := 75) (r := []) hc rfl rfl rfl rfl sh_75 rfl zco_181 rfl rfl rfl ?_
                      refine ok_X12_operand_75 (zdp hd rfl) (zwp_mono (zwp_bind h) ?_)
                      rintro ⟨o378, o379, o380, o381, o382, o383, o384, o385, o386, o387, o388, o389, o390, o391, o392⟩ h
                      refine z_po (pc' := 253) (st' := []) (v := none) (L' := [(75, some 16, fun _ => o379), (75, some 17, fun _ => o380), (75, some 20, fun _ => o382), (75, some 21, fun _ => o386), (75, some 22, fun _ => o383), (75, some 23, fun _ => o381), (75, some 24, fun _ => o389), (75, some 25, fun _ => o385), (75, some 35, fun _ => o388), (75, some 36, fun _ => a1), (75, some 37, fun _ => a2), (75, some 38, fun _ => o390), (75, some 39, fun _ => o378), (88, none, o384), (89, none, o391), (90, none, o387)]) (K' := [(75, some 26, fun _ => o392)]) zco_181 rfl rfl rfl rfl rfl rfl rfl rfl ?_
                      refine g_goto hc rfl ?_
                      refine g_goto hc rfl ?_
                      replace h := zwp_l h
                      exact h (some (.int r66)) rfl
                    refine g_if_eq (pc' := 234) hc rfl rfl (fun hx => ?_) (fun hx => ?_)
                    · replace h := zwp_t h hx
                      refine g_bipush (pc' := 241) (v := (9 : Int32)) hc rfl zkb_9 rfl ?_
                      replace h := zws h
                      exact h
                    · replace h := zwp_f h hx
                      refine g_bipush (pc' := 236) (v := (8 : Int32)) hc rfl zkb_8 rfl ?_
                      refine g_goto hc rfl ?_
                      replace h := zws h
                      exact h
              · replace h := zwp_f h hx
                refine g_aload_n (pc' := 143)  hc rfl rfl rfl rfl ?_
                refine z_getR (pc' := 146)  hc rfl rfl rfl sh_75 rfl rfl ?_
                refine g_aload_n (pc' := 147)  hc rfl rfl rfl rfl ?_
                refine z_getI (pc' := 150) (v := x23) hc rfl rfl rfl sh_75 rfl rfl rfl ?_
                have hb := (zwp_bnd h).1
                replace h := (zwp_bnd h).2
                refine z_baload (pc' := 151) (v := (x32 x23.toNatClampNeg)) hc rfl rfl sh_90 hb rfl rfl ?_
                refine g_if_ne (pc' := 154) hc rfl rfl (fun hx => ?_) (fun hx => ?_)
                · replace h := zwp_f h hx
                  refine g_aload_n (pc' := 202)  hc rfl rfl rfl rfl ?_
                  refine g_bipush (pc' := 204) (v := (43 : Int32)) hc rfl zkb_43 rfl ?_
                  refine z_virt (as := [.int (43 : Int32)]) (a := 75) (r := []) hc rfl rfl rfl rfl sh_75 rfl zco_170 rfl rfl rfl ?_
                  refine ok_X12_isSign_75 (zdp hd rfl) (zwp_mono (zwp_bind h) ?_)
                  rintro r393 h
                  refine z_po (pc' := 207) (st' := [.int r393]) (v := (some (.int r393))) (L' := [(75, some 16, fun _ => x24), (75, some 17, fun _ => x25), (75, some 20, fun _ => x27), (75, some 21, fun _ => x31), (75, some 22, fun _ => x28), (75, some 23, fun _ => x26), (75, some 24, fun _ => x34), (75, some 25, fun _ => x30), (75, some 35, fun _ => x33), (75, some 36, fun _ => a1), (75, some 37, fun _ => a2), (75, some 38, fun _ => x35), (75, some 39, fun _ => x23), (88, none, x29), (89, none, x36), (90, none, x32)]) (K' := [(75, some 26, fun _ => x37)]) zco_170 rfl rfl rfl rfl rfl rfl rfl rfl ?_
                  refine g_if_ne (pc' := 210) hc rfl rfl (fun hx => ?_) (fun hx => ?_)
                  · replace h := zwp_f h hx
                    refine g_aload_n (pc' := 220)  hc rfl rfl rfl rfl ?_
                    refine g_iconst (pc' := 221) (v := (5 : Int32)) hc rfl zki_5 rfl ?_
                    refine z_virt (as := [.int (5 : Int32)]) (a := 75) (r := []) hc rfl rfl rfl rfl sh_75 rfl zco_177 rfl rfl rfl ?_
                    refine ok_X12_drops_75 (zdp hd rfl) (zwp_mono (zwp_bind h) ?_)
                    rintro ⟨o394, o395, o396⟩ h
                    refine z_po (pc' := 224) (st' := []) (v := none) (L' := [(75, some 16, fun _ => x24), (75, some 17, fun _ => x25), (75, some 20, fun _ => x27), (75, some 21, fun _ => x31), (75, some 22, fun _ => x28), (75, some 23, fun _ => x26), (75, some 24, fun _ => x34), (75, some 25, fun _ => x30), (75, some 35, fun _ => o395), (75, some 36, fun _ => a1), (75, some 37, fun _ => a2), (75, some 38, fun _ => o396), (75, some 39, fun _ => x23), (88, none, o394), (89, none, x36), (90, none, x32)]) (K' := [(75, some 26, fun _ => x37)]) zco_177 rfl rfl rfl rfl rfl rfl rfl rfl ?_
                    refine g_aload_n (pc' := 225)  hc rfl rfl rfl rfl ?_
                    refine g_aload_n (pc' := 226)  hc rfl rfl rfl rfl ?_
                    refine g_bipush (pc' := 228) (v := (43 : Int32)) hc rfl zkb_43 rfl ?_
                    refine z_virt (as := [.int (43 : Int32)]) (a := 75) (r := [.ref 75]) hc rfl rfl rfl rfl sh_75 rfl zco_170 rfl rfl rfl ?_
                    refine ok_X12_isSign_75 (zdp hd rfl) (zwp_mono (zwp_bind h) ?_)
                    rintro r397 h
                    refine z_po (pc' := 231) (st' := [.int r397, .ref 75]) (v := (some (.int r397))) (L' := [(75, some 16, fun _ => x24), (75, some 17, fun _ => x25), (75, some 20, fun _ => x27), (75, some 21, fun _ => x31), (75, some 22, fun _ => x28), (75, some 23, fun _ => x26), (75, some 24, fun _ => x34), (75, some 25, fun _ => x30), (75, some 35, fun _ => o395), (75, some 36, fun _ => a1), (75, some 37, fun _ => a2), (75, some 38, fun _ => o396), (75, some 39, fun _ => x23), (88, none, o394), (89, none, x36), (90, none, x32)]) (K' := [(75, some 26, fun _ => x37)]) zco_170 rfl rfl rfl rfl rfl rfl rfl rfl ?_
                    refine zjn (G := (fun (j398 : Int32) => pm_ev C_X12_expression (d + 1) (pm_call M cost zext d) cost (false, false) 108 0 0 Q 241 [some (.ref 75), some (.int a1), some (.int a2), some (.int x21), some (.int r66)] [.int j398, .ref 75] 0 0 (zS p q I [(75, some 16, fun _ => x24), (75, some 17, fun _ => x25), (75, some 20, fun _ => x27), (75, some 21, fun _ => x31), (75, some 22, fun _ => x28), (75, some 23, fun _ => x26), (75, some 24, fun _ => x34), (75, some 25, fun _ => x30), (75, some 35, fun _ => o395), (75, some 36, fun _ => a1), (75, some 37, fun _ => a2), (75, some 38, fun _ => o396), (75, some 39, fun _ => x23), (88, none, o394), (89, none, x36), (90, none, x32)] J [(75, some 26, fun _ => x37)]))) (zwp_bind h) ?_ (fun h => ?_)
                    · rintro j398 h
                      refine z_virt (as := [.int j398]) (a := 75) (r := []) hc rfl rfl rfl rfl sh_75 rfl zco_178 rfl rfl rfl ?_
                      refine ok_X12_waitsFor_75 (zdp hd rfl) (zwp_mono (zwp_bind h) ?_)
                      rintro ⟨o399, o400⟩ h
                      refine z_po (pc' := 244) (st' := []) (v := none) (L' := [(75, some 16, fun _ => x24), (75, some 17, fun _ => x25), (75, some 20, fun _ => x27), (75, some 21, fun _ => x31), (75, some 22, fun _ => x28), (75, some 23, fun _ => x26), (75, some 24, fun _ => x34), (75, some 25, fun _ => x30), (75, some 35, fun _ => o395), (75, some 36, fun _ => a1), (75, some 37, fun _ => a2), (75, some 38, fun _ => o399), (75, some 39, fun _ => x23), (88, none, o394), (89, none, o400), (90, none, x32)]) (K' := [(75, some 26, fun _ => x37)]) zco_178 rfl rfl rfl rfl rfl rfl rfl rfl ?_
                      refine g_aload_n (pc' := 245)  hc rfl rfl rfl rfl ?_
                      refine z_virt (as := []) (a := 75) (r := []) hc rfl rfl rfl rfl sh_75 rfl zco_164 rfl rfl rfl ?_
                      refine ok_X12_goes_75 (zdp hd rfl) (zwp_mono (zwp_bind h) ?_)
                      rintro ⟨o401, o402, o403, o404, o405, o406, o407⟩ h
                      refine z_po (pc' := 248) (st' := []) (v := none) (L' := [(75, some 16, fun _ => x24), (75, some 17, fun _ => x25), (75, some 20, fun _ => o402), (75, some 21, fun _ => o405), (75, some 22, fun _ => o403), (75, some 23, fun _ => o401), (75, some 24, fun _ => o406), (75, some 25, fun _ => o404), (75, some 35, fun _ => o395), (75, some 36, fun _ => a1), (75, some 37, fun _ => a2), (75, some 38, fun _ => o399), (75, some 39, fun _ => x23), (88, none, o394), (89, none, o400), (90, none, x32)]) (K' := [(75, some 26, fun _ => o407)]) zco_164 rfl rfl rfl rfl rfl rfl rfl rfl ?_
                      refine g_aload_n (pc' := 249)  hc rfl rfl rfl rfl ?_
                      refine g_iconst (pc' := 250) (v := (0 : Int32)) hc rfl zki_0 rfl ?_
                      refine z_virt (as := [.int (0 : Int32)]) (a := 75) (r := []) hc rfl rfl rfl rfl sh_75 rfl zco_181 rfl rfl rfl ?_
                      refine ok_X12_operand_75 (zdp hd rfl) (zwp_mono (zwp_bind h) ?_)
                      rintro ⟨o408, o409, o410, o411, o412, o413, o414, o415, o416, o417, o418, o419, o420, o421, o422⟩ h
                      refine z_po (pc' := 253) (st' := []) (v := none) (L' := [(75, some 16, fun _ => o409), (75, some 17, fun _ => o410), (75, some 20, fun _ => o412), (75, some 21, fun _ => o416), (75, some 22, fun _ => o413), (75, some 23, fun _ => o411), (75, some 24, fun _ => o419), (75, some 25, fun _ => o415), (75, some 35, fun _ => o418), (75, some 36, fun _ => a1), (75, some 37, fun _ => a2), (75, some 38, fun _ => o420), (75, some 39, fun _ => o408), (88, none, o414), (89, none, o421), (90, none, o417)]) (K' := [(75, some 26, fun _ => o422)]) zco_181 rfl rfl rfl rfl rfl rfl rfl rfl ?_
                      refine g_goto hc rfl ?_
                      refine g_goto hc rfl ?_
                      replace h := zwp_l h
                      exact h (some (.int r66)) rfl
                    refine g_if_eq (pc' := 234) hc rfl rfl (fun hx => ?_) (fun hx => ?_)
                    · replace h := zwp_t h hx
                      refine g_bipush (pc' := 241) (v := (9 : Int32)) hc rfl zkb_9 rfl ?_
                      replace h := zws h
                      exact h
                    · replace h := zwp_f h hx
                      refine g_bipush (pc' := 236) (v := (8 : Int32)) hc rfl zkb_8 rfl ?_
                      refine g_goto hc rfl ?_
                      replace h := zws h
                      exact h
                  · replace h := zwp_t h hx
                    refine g_aload_n (pc' := 211)  hc rfl rfl rfl rfl ?_
                    refine g_bipush (pc' := 213) (v := (45 : Int32)) hc rfl zkb_45 rfl ?_
                    refine z_virt (as := [.int (45 : Int32)]) (a := 75) (r := []) hc rfl rfl rfl rfl sh_75 rfl zco_170 rfl rfl rfl ?_
                    refine ok_X12_isSign_75 (zdp hd rfl) (zwp_mono (zwp_bind h) ?_)
                    rintro r423 h
                    refine z_po (pc' := 216) (st' := [.int r423]) (v := (some (.int r423))) (L' := [(75, some 16, fun _ => x24), (75, some 17, fun _ => x25), (75, some 20, fun _ => x27), (75, some 21, fun _ => x31), (75, some 22, fun _ => x28), (75, some 23, fun _ => x26), (75, some 24, fun _ => x34), (75, some 25, fun _ => x30), (75, some 35, fun _ => x33), (75, some 36, fun _ => a1), (75, some 37, fun _ => a2), (75, some 38, fun _ => x35), (75, some 39, fun _ => x23), (88, none, x29), (89, none, x36), (90, none, x32)]) (K' := [(75, some 26, fun _ => x37)]) zco_170 rfl rfl rfl rfl rfl rfl rfl rfl ?_
                    refine g_if_eq (pc' := 219) hc rfl rfl (fun hx => ?_) (fun hx => ?_)
                    · replace h := zwp_t h hx
                      refine g_aload_n (pc' := 257)  hc rfl rfl rfl rfl ?_
                      refine g_bipush (pc' := 259) (v := (42 : Int32)) hc rfl zkb_42 rfl ?_
                      refine z_virt (as := [.int (42 : Int32)]) (a := 75) (r := []) hc rfl rfl rfl rfl sh_75 rfl zco_170 rfl rfl rfl ?_
                      refine ok_X12_isSign_75 (zdp hd rfl) (zwp_mono (zwp_bind h) ?_)
                      rintro r424 h
                      refine z_po (pc' := 262) (st' := [.int r424]) (v := (some (.int r424))) (L' := [(75, some 16, fun _ => x24), (75, some 17, fun _ => x25), (75, some 20, fun _ => x27), (75, some 21, fun _ => x31), (75, some 22, fun _ => x28), (75, some 23, fun _ => x26), (75, some 24, fun _ => x34), (75, some 25, fun _ => x30), (75, some 35, fun _ => x33), (75, some 36, fun _ => a1), (75, some 37, fun _ => a2), (75, some 38, fun _ => x35), (75, some 39, fun _ => x23), (88, none, x29), (89, none, x36), (90, none, x32)]) (K' := [(75, some 26, fun _ => x37)]) zco_170 rfl rfl rfl rfl rfl rfl rfl rfl ?_
                      refine g_if_ne (pc' := 265) hc rfl rfl (fun hx => ?_) (fun hx => ?_)
                      · replace h := zwp_f h hx
                        refine g_aload_n (pc' := 275)  hc rfl rfl rfl rfl ?_
                        refine g_bipush (pc' := 277) (v := (6 : Int32)) hc rfl zkb_6 rfl ?_
                        refine z_virt (as := [.int (6 : Int32)]) (a := 75) (r := []) hc rfl rfl rfl rfl sh_75 rfl zco_177 rfl rfl rfl ?_
                        refine ok_X12_drops_75 (zdp hd rfl) (zwp_mono (zwp_bind h) ?_)
                        rintro ⟨o425, o426, o427⟩ h
                        refine z_po (pc' := 280) (st' := []) (v := none) (L' := [(75, some 16, fun _ => x24), (75, some 17, fun _ => x25), (75, some 20, fun _ => x27), (75, some 21, fun _ => x31), (75, some 22, fun _ => x28), (75, some 23, fun _ => x26), (75, some 24, fun _ => x34), (75, some 25, fun _ => x30), (75, some 35, fun _ => o426), (75, some 36, fun _ => a1), (75, some 37, fun _ => a2), (75, some 38, fun _ => o427), (75, some 39, fun _ => x23), (88, none, o425), (89, none, x36), (90, none, x32)]) (K' := [(75, some 26, fun _ => x37)]) zco_177 rfl rfl rfl rfl rfl rfl rfl rfl ?_
                        refine g_aload_n (pc' := 281)  hc rfl rfl rfl rfl ?_
                        refine g_aload_n (pc' := 282)  hc rfl rfl rfl rfl ?_
                        refine g_bipush (pc' := 284) (v := (42 : Int32)) hc rfl zkb_42 rfl ?_
                        refine z_virt (as := [.int (42 : Int32)]) (a := 75) (r := [.ref 75]) hc rfl rfl rfl rfl sh_75 rfl zco_170 rfl rfl rfl ?_
                        refine ok_X12_isSign_75 (zdp hd rfl) (zwp_mono (zwp_bind h) ?_)
                        rintro r428 h
                        refine z_po (pc' := 287) (st' := [.int r428, .ref 75]) (v := (some (.int r428))) (L' := [(75, some 16, fun _ => x24), (75, some 17, fun _ => x25), (75, some 20, fun _ => x27), (75, some 21, fun _ => x31), (75, some 22, fun _ => x28), (75, some 23, fun _ => x26), (75, some 24, fun _ => x34), (75, some 25, fun _ => x30), (75, some 35, fun _ => o426), (75, some 36, fun _ => a1), (75, some 37, fun _ => a2), (75, some 38, fun _ => o427), (75, some 39, fun _ => x23), (88, none, o425), (89, none, x36), (90, none, x32)]) (K' := [(75, some 26, fun _ => x37)]) zco_170 rfl rfl rfl rfl rfl rfl rfl rfl ?_
                        refine zjn (G := (fun (j429 : Int32) => pm_ev C_X12_expression (d + 1) (pm_call M cost zext d) cost (false, false) 108 0 0 Q 297 [some (.ref 75), some (.int a1), some (.int a2), some (.int x21), some (.int r66)] [.int j429, .ref 75] 0 0 (zS p q I [(75, some 16, fun _ => x24), (75, some 17, fun _ => x25), (75, some 20, fun _ => x27), (75, some 21, fun _ => x31), (75, some 22, fun _ => x28), (75, some 23, fun _ => x26), (75, some 24, fun _ => x34), (75, some 25, fun _ => x30), (75, some 35, fun _ => o426), (75, some 36, fun _ => a1), (75, some 37, fun _ => a2), (75, some 38, fun _ => o427), (75, some 39, fun _ => x23), (88, none, o425), (89, none, x36), (90, none, x32)] J [(75, some 26, fun _ => x37)]))) (zwp_bind h) ?_ (fun h => ?_)
                        · rintro j429 h
                          refine z_virt (as := [.int j429]) (a := 75) (r := []) hc rfl rfl rfl rfl sh_75 rfl zco_178 rfl rfl rfl ?_
                          refine ok_X12_waitsFor_75 (zdp hd rfl) (zwp_mono (zwp_bind h) ?_)
                          rintro ⟨o430, o431⟩ h
                          refine z_po (pc' := 300) (st' := []) (v := none) (L' := [(75, some 16, fun _ => x24), (75, some 17, fun _ => x25), (75, some 20, fun _ => x27), (75, some 21, fun _ => x31), (75, some 22, fun _ => x28), (75, some 23, fun _ => x26), (75, some 24, fun _ => x34), (75, some 25, fun _ => x30), (75, some 35, fun _ => o426), (75, some 36, fun _ => a1), (75, some 37, fun _ => a2), (75, some 38, fun _ => o430), (75, some 39, fun _ => x23), (88, none, o425), (89, none, o431), (90, none, x32)]) (K' := [(75, some 26, fun _ => x37)]) zco_178 rfl rfl rfl rfl rfl rfl rfl rfl ?_
                          refine g_aload_n (pc' := 301)  hc rfl rfl rfl rfl ?_
                          refine z_virt (as := []) (a := 75) (r := []) hc rfl rfl rfl rfl sh_75 rfl zco_164 rfl rfl rfl ?_
                          refine ok_X12_goes_75 (zdp hd rfl) (zwp_mono (zwp_bind h) ?_)
                          rintro ⟨o432, o433, o434, o435, o436, o437, o438⟩ h
                          refine z_po (pc' := 304) (st' := []) (v := none) (L' := [(75, some 16, fun _ => x24), (75, some 17, fun _ => x25), (75, some 20, fun _ => o433), (75, some 21, fun _ => o436), (75, some 22, fun _ => o434), (75, some 23, fun _ => o432), (75, some 24, fun _ => o437), (75, some 25, fun _ => o435), (75, some 35, fun _ => o426), (75, some 36, fun _ => a1), (75, some 37, fun _ => a2), (75, some 38, fun _ => o430), (75, some 39, fun _ => x23), (88, none, o425), (89, none, o431), (90, none, x32)]) (K' := [(75, some 26, fun _ => o438)]) zco_164 rfl rfl rfl rfl rfl rfl rfl rfl ?_
                          refine g_aload_n (pc' := 305)  hc rfl rfl rfl rfl ?_
                          refine g_iconst (pc' := 306) (v := (0 : Int32)) hc rfl zki_0 rfl ?_
                          refine z_virt (as := [.int (0 : Int32)]) (a := 75) (r := []) hc rfl rfl rfl rfl sh_75 rfl zco_181 rfl rfl rfl ?_
                          refine ok_X12_operand_75 (zdp hd rfl) (zwp_mono (zwp_bind h) ?_)
                          rintro ⟨o439, o440, o441, o442, o443, o444, o445, o446, o447, o448, o449, o450, o451, o452, o453⟩ h
                          refine z_po (pc' := 309) (st' := []) (v := none) (L' := [(75, some 16, fun _ => o440), (75, some 17, fun _ => o441), (75, some 20, fun _ => o443), (75, some 21, fun _ => o447), (75, some 22, fun _ => o444), (75, some 23, fun _ => o442), (75, some 24, fun _ => o450), (75, some 25, fun _ => o446), (75, some 35, fun _ => o449), (75, some 36, fun _ => a1), (75, some 37, fun _ => a2), (75, some 38, fun _ => o451), (75, some 39, fun _ => o439), (88, none, o445), (89, none, o452), (90, none, o448)]) (K' := [(75, some 26, fun _ => o453)]) zco_181 rfl rfl rfl rfl rfl rfl rfl rfl ?_
                          refine g_goto hc rfl ?_
                          refine g_goto hc rfl ?_
                          replace h := zwp_l h
                          exact h (some (.int r66)) rfl
                        refine g_if_eq (pc' := 290) hc rfl rfl (fun hx => ?_) (fun hx => ?_)
                        · replace h := zwp_t h hx
                          refine g_bipush (pc' := 297) (v := (11 : Int32)) hc rfl zkb_11 rfl ?_
                          replace h := zws h
                          exact h
                        · replace h := zwp_f h hx
                          refine g_bipush (pc' := 292) (v := (10 : Int32)) hc rfl zkb_10 rfl ?_
                          refine g_goto hc rfl ?_
                          replace h := zws h
                          exact h
                      · replace h := zwp_t h hx
                        refine g_aload_n (pc' := 266)  hc rfl rfl rfl rfl ?_
                        refine g_bipush (pc' := 268) (v := (47 : Int32)) hc rfl zkb_47 rfl ?_
                        refine z_virt (as := [.int (47 : Int32)]) (a := 75) (r := []) hc rfl rfl rfl rfl sh_75 rfl zco_170 rfl rfl rfl ?_
                        refine ok_X12_isSign_75 (zdp hd rfl) (zwp_mono (zwp_bind h) ?_)
                        rintro r454 h
                        refine z_po (pc' := 271) (st' := [.int r454]) (v := (some (.int r454))) (L' := [(75, some 16, fun _ => x24), (75, some 17, fun _ => x25), (75, some 20, fun _ => x27), (75, some 21, fun _ => x31), (75, some 22, fun _ => x28), (75, some 23, fun _ => x26), (75, some 24, fun _ => x34), (75, some 25, fun _ => x30), (75, some 35, fun _ => x33), (75, some 36, fun _ => a1), (75, some 37, fun _ => a2), (75, some 38, fun _ => x35), (75, some 39, fun _ => x23), (88, none, x29), (89, none, x36), (90, none, x32)]) (K' := [(75, some 26, fun _ => x37)]) zco_170 rfl rfl rfl rfl rfl rfl rfl rfl ?_
                        refine g_if_eq (pc' := 274) hc rfl rfl (fun hx => ?_) (fun hx => ?_)
                        · replace h := zwp_t h hx
                          refine g_aload_n (pc' := 313)  hc rfl rfl rfl rfl ?_
                          refine g_bipush (pc' := 315) (v := (41 : Int32)) hc rfl zkb_41 rfl ?_
                          refine z_virt (as := [.int (41 : Int32)]) (a := 75) (r := []) hc rfl rfl rfl rfl sh_75 rfl zco_170 rfl rfl rfl ?_
                          refine ok_X12_isSign_75 (zdp hd rfl) (zwp_mono (zwp_bind h) ?_)
                          rintro r455 h
                          refine z_po (pc' := 318) (st' := [.int r455]) (v := (some (.int r455))) (L' := [(75, some 16, fun _ => x24), (75, some 17, fun _ => x25), (75, some 20, fun _ => x27), (75, some 21, fun _ => x31), (75, some 22, fun _ => x28), (75, some 23, fun _ => x26), (75, some 24, fun _ => x34), (75, some 25, fun _ => x30), (75, some 35, fun _ => x33), (75, some 36, fun _ => a1), (75, some 37, fun _ => a2), (75, some 38, fun _ => x35), (75, some 39, fun _ => x23), (88, none, x29), (89, none, x36), (90, none, x32)]) (K' := [(75, some 26, fun _ => x37)]) zco_170 rfl rfl rfl rfl rfl rfl rfl rfl ?_
                          refine g_if_eq (pc' := 321) hc rfl rfl (fun hx => ?_) (fun hx => ?_)
                          · replace h := zwp_t h hx
                            refine g_iconst (pc' := 336) (v := (0 : Int32)) hc rfl zki_0 rfl ?_
                            refine g_istore_n (pc' := 337) (ls1 := [some (.ref 75), some (.int a1), some (.int a2), some (.int (0 : Int32)), some (.int r66)]) hc rfl (zlt rfl) rfl rfl ?_
                            refine g_goto hc rfl ?_
                            replace h := zwp_l h
                            exact h (some (.int r66)) rfl
                          · replace h := zwp_f h hx
                            refine g_aload_n (pc' := 322)  hc rfl rfl rfl rfl ?_
                            refine z_virt (as := []) (a := 75) (r := []) hc rfl rfl rfl rfl sh_75 rfl zco_182 rfl rfl rfl ?_
                            refine ok_X12_isOpened_75 (zdp hd rfl) (zwp_mono (zwp_bind h) ?_)
                            rintro r456 h
                            refine z_po (pc' := 325) (st' := [.int r456]) (v := (some (.int r456))) (L' := [(75, some 16, fun _ => x24), (75, some 17, fun _ => x25), (75, some 20, fun _ => x27), (75, some 21, fun _ => x31), (75, some 22, fun _ => x28), (75, some 23, fun _ => x26), (75, some 24, fun _ => x34), (75, some 25, fun _ => x30), (75, some 35, fun _ => x33), (75, some 36, fun _ => a1), (75, some 37, fun _ => a2), (75, some 38, fun _ => x35), (75, some 39, fun _ => x23), (88, none, x29), (89, none, x36), (90, none, x32)]) (K' := [(75, some 26, fun _ => x37)]) zco_182 rfl rfl rfl rfl rfl rfl rfl rfl ?_
                            refine g_if_eq (pc' := 328) hc rfl rfl (fun hx => ?_) (fun hx => ?_)
                            · replace h := zwp_t h hx
                              refine g_iconst (pc' := 336) (v := (0 : Int32)) hc rfl zki_0 rfl ?_
                              refine g_istore_n (pc' := 337) (ls1 := [some (.ref 75), some (.int a1), some (.int a2), some (.int (0 : Int32)), some (.int r66)]) hc rfl (zlt rfl) rfl rfl ?_
                              refine g_goto hc rfl ?_
                              replace h := zwp_l h
                              exact h (some (.int r66)) rfl
                            · replace h := zwp_f h hx
                              refine g_aload_n (pc' := 329)  hc rfl rfl rfl rfl ?_
                              refine z_virt (as := []) (a := 75) (r := []) hc rfl rfl rfl rfl sh_75 rfl zco_183 rfl rfl rfl ?_
                              refine ok_X12_closes_75 (zdp hd rfl) (zwp_mono (zwp_bind h) ?_)
                              rintro ⟨o457, o458, o459, o460, o461, o462, o463, o464, o465, o466, o467⟩ h
                              refine z_po (pc' := 332) (st' := []) (v := none) (L' := [(75, some 16, fun _ => x24), (75, some 17, fun _ => x25), (75, some 20, fun _ => o459), (75, some 21, fun _ => o463), (75, some 22, fun _ => o460), (75, some 23, fun _ => o458), (75, some 24, fun _ => o465), (75, some 25, fun _ => o462), (75, some 35, fun _ => o464), (75, some 36, fun _ => a1), (75, some 37, fun _ => a2), (75, some 38, fun _ => o466), (75, some 39, fun _ => o457), (88, none, o461), (89, none, x36), (90, none, x32)]) (K' := [(75, some 26, fun _ => o467)]) zco_183 rfl rfl rfl rfl rfl rfl rfl rfl ?_
                              refine g_goto hc rfl ?_
                              refine g_goto hc rfl ?_
                              replace h := zwp_l h
                              exact h (some (.int r66)) rfl
                        · replace h := zwp_f h hx
                          refine g_aload_n (pc' := 275)  hc rfl rfl rfl rfl ?_
                          refine g_bipush (pc' := 277) (v := (6 : Int32)) hc rfl zkb_6 rfl ?_
                          refine z_virt (as := [.int (6 : Int32)]) (a := 75) (r := []) hc rfl rfl rfl rfl sh_75 rfl zco_177 rfl rfl rfl ?_
                          refine ok_X12_drops_75 (zdp hd rfl) (zwp_mono (zwp_bind h) ?_)
                          rintro ⟨o468, o469, o470⟩ h
                          refine z_po (pc' := 280) (st' := []) (v := none) (L' := [(75, some 16, fun _ => x24), (75, some 17, fun _ => x25), (75, some 20, fun _ => x27), (75, some 21, fun _ => x31), (75, some 22, fun _ => x28), (75, some 23, fun _ => x26), (75, some 24, fun _ => x34), (75, some 25, fun _ => x30), (75, some 35, fun _ => o469), (75, some 36, fun _ => a1), (75, some 37, fun _ => a2), (75, some 38, fun _ => o470), (75, some 39, fun _ => x23), (88, none, o468), (89, none, x36), (90, none, x32)]) (K' := [(75, some 26, fun _ => x37)]) zco_177 rfl rfl rfl rfl rfl rfl rfl rfl ?_
                          refine g_aload_n (pc' := 281)  hc rfl rfl rfl rfl ?_
                          refine g_aload_n (pc' := 282)  hc rfl rfl rfl rfl ?_
                          refine g_bipush (pc' := 284) (v := (42 : Int32)) hc rfl zkb_42 rfl ?_
                          refine z_virt (as := [.int (42 : Int32)]) (a := 75) (r := [.ref 75]) hc rfl rfl rfl rfl sh_75 rfl zco_170 rfl rfl rfl ?_
                          refine ok_X12_isSign_75 (zdp hd rfl) (zwp_mono (zwp_bind h) ?_)
                          rintro r471 h
                          refine z_po (pc' := 287) (st' := [.int r471, .ref 75]) (v := (some (.int r471))) (L' := [(75, some 16, fun _ => x24), (75, some 17, fun _ => x25), (75, some 20, fun _ => x27), (75, some 21, fun _ => x31), (75, some 22, fun _ => x28), (75, some 23, fun _ => x26), (75, some 24, fun _ => x34), (75, some 25, fun _ => x30), (75, some 35, fun _ => o469), (75, some 36, fun _ => a1), (75, some 37, fun _ => a2), (75, some 38, fun _ => o470), (75, some 39, fun _ => x23), (88, none, o468), (89, none, x36), (90, none, x32)]) (K' := [(75, some 26, fun _ => x37)]) zco_170 rfl rfl rfl rfl rfl rfl rfl rfl ?_
                          refine zjn (G := (fun (j472 : Int32) => pm_ev C_X12_expression (d + 1) (pm_call M cost zext d) cost (false, false) 108 0 0 Q 297 [some (.ref 75), some (.int a1), some (.int a2), some (.int x21), some (.int r66)] [.int j472, .ref 75] 0 0 (zS p q I [(75, some 16, fun _ => x24), (75, some 17, fun _ => x25), (75, some 20, fun _ => x27), (75, some 21, fun _ => x31), (75, some 22, fun _ => x28), (75, some 23, fun _ => x26), (75, some 24, fun _ => x34), (75, some 25, fun _ => x30), (75, some 35, fun _ => o469), (75, some 36, fun _ => a1), (75, some 37, fun _ => a2), (75, some 38, fun _ => o470), (75, some 39, fun _ => x23), (88, none, o468), (89, none, x36), (90, none, x32)] J [(75, some 26, fun _ => x37)]))) (zwp_bind h) ?_ (fun h => ?_)
                          · rintro j472 h
                            refine z_virt (as := [.int j472]) (a := 75) (r := []) hc rfl rfl rfl rfl sh_75 rfl zco_178 rfl rfl rfl ?_
                            refine ok_X12_waitsFor_75 (zdp hd rfl) (zwp_mono (zwp_bind h) ?_)
                            rintro ⟨o473, o474⟩ h
                            refine z_po (pc' := 300) (st' := []) (v := none) (L' := [(75, some 16, fun _ => x24), (75, some 17, fun _ => x25), (75, some 20, fun _ => x27), (75, some 21, fun _ => x31), (75, some 22, fun _ => x28), (75, some 23, fun _ => x26), (75, some 24, fun _ => x34), (75, some 25, fun _ => x30), (75, some 35, fun _ => o469), (75, some 36, fun _ => a1), (75, some 37, fun _ => a2), (75, some 38, fun _ => o473), (75, some 39, fun _ => x23), (88, none, o468), (89, none, o474), (90, none, x32)]) (K' := [(75, some 26, fun _ => x37)]) zco_178 rfl rfl rfl rfl rfl rfl rfl rfl ?_
                            refine g_aload_n (pc' := 301)  hc rfl rfl rfl rfl ?_
                            refine z_virt (as := []) (a := 75) (r := []) hc rfl rfl rfl rfl sh_75 rfl zco_164 rfl rfl rfl ?_
                            refine ok_X12_goes_75 (zdp hd rfl) (zwp_mono (zwp_bind h) ?_)
                            rintro ⟨o475, o476, o477, o478, o479, o480, o481⟩ h
                            refine z_po (pc' := 304) (st' := []) (v := none) (L' := [(75, some 16, fun _ => x24), (75, some 17, fun _ => x25), (75, some 20, fun _ => o476), (75, some 21, fun _ => o479), (75, some 22, fun _ => o477), (75, some 23, fun _ => o475), (75, some 24, fun _ => o480), (75, some 25, fun _ => o478), (75, some 35, fun _ => o469), (75, some 36, fun _ => a1), (75, some 37, fun _ => a2), (75, some 38, fun _ => o473), (75, some 39, fun _ => x23), (88, none, o468), (89, none, o474), (90, none, x32)]) (K' := [(75, some 26, fun _ => o481)]) zco_164 rfl rfl rfl rfl rfl rfl rfl rfl ?_
                            refine g_aload_n (pc' := 305)  hc rfl rfl rfl rfl ?_
                            refine g_iconst (pc' := 306) (v := (0 : Int32)) hc rfl zki_0 rfl ?_
                            refine z_virt (as := [.int (0 : Int32)]) (a := 75) (r := []) hc rfl rfl rfl rfl sh_75 rfl zco_181 rfl rfl rfl ?_
                            refine ok_X12_operand_75 (zdp hd rfl) (zwp_mono (zwp_bind h) ?_)
                            rintro ⟨o482, o483, o484, o485, o486, o487, o488, o489, o490, o491, o492, o493, o494, o495, o496⟩ h
                            refine z_po (pc' := 309) (st' := []) (v := none) (L' := [(75, some 16, fun _ => o483), (75, some 17, fun _ => o484), (75, some 20, fun _ => o486), (75, some 21, fun _ => o490), (75, some 22, fun _ => o487), (75, some 23, fun _ => o485), (75, some 24, fun _ => o493), (75, some 25, fun _ => o489), (75, some 35, fun _ => o492), (75, some 36, fun _ => a1), (75, some 37, fun _ => a2), (75, some 38, fun _ => o494), (75, some 39, fun _ => o482), (88, none, o488), (89, none, o495), (90, none, o491)]) (K' := [(75, some 26, fun _ => o496)]) zco_181 rfl rfl rfl rfl rfl rfl rfl rfl ?_
                            refine g_goto hc rfl ?_
                            refine g_goto hc rfl ?_
                            replace h := zwp_l h
                            exact h (some (.int r66)) rfl
                          refine g_if_eq (pc' := 290) hc rfl rfl (fun hx => ?_) (fun hx => ?_)
                          · replace h := zwp_t h hx
                            refine g_bipush (pc' := 297) (v := (11 : Int32)) hc rfl zkb_11 rfl ?_
                            replace h := zws h
                            exact h
                          · replace h := zwp_f h hx
                            refine g_bipush (pc' := 292) (v := (10 : Int32)) hc rfl zkb_10 rfl ?_
                            refine g_goto hc rfl ?_
                            replace h := zws h
                            exact h
                    · replace h := zwp_f h hx
                      refine g_aload_n (pc' := 220)  hc rfl rfl rfl rfl ?_
                      refine g_iconst (pc' := 221) (v := (5 : Int32)) hc rfl zki_5 rfl ?_
                      refine z_virt (as := [.int (5 : Int32)]) (a := 75) (r := []) hc rfl rfl rfl rfl sh_75 rfl zco_177 rfl rfl rfl ?_
                      refine ok_X12_drops_75 (zdp hd rfl) (zwp_mono (zwp_bind h) ?_)
                      rintro ⟨o497, o498, o499⟩ h
                      refine z_po (pc' := 224) (st' := []) (v := none) (L' := [(75, some 16, fun _ => x24), (75, some 17, fun _ => x25), (75, some 20, fun _ => x27), (75, some 21, fun _ => x31), (75, some 22, fun _ => x28), (75, some 23, fun _ => x26), (75, some 24, fun _ => x34), (75, some 25, fun _ => x30), (75, some 35, fun _ => o498), (75, some 36, fun _ => a1), (75, some 37, fun _ => a2), (75, some 38, fun _ => o499), (75, some 39, fun _ => x23), (88, none, o497), (89, none, x36), (90, none, x32)]) (K' := [(75, some 26, fun _ => x37)]) zco_177 rfl rfl rfl rfl rfl rfl rfl rfl ?_
                      refine g_aload_n (pc' := 225)  hc rfl rfl rfl rfl ?_
                      refine g_aload_n (pc' := 226)  hc rfl rfl rfl rfl ?_
                      refine g_bipush (pc' := 228) (v := (43 : Int32)) hc rfl zkb_43 rfl ?_
                      refine z_virt (as := [.int (43 : Int32)]) (a := 75) (r := [.ref 75]) hc rfl rfl rfl rfl sh_75 rfl zco_170 rfl rfl rfl ?_
                      refine ok_X12_isSign_75 (zdp hd rfl) (zwp_mono (zwp_bind h) ?_)
                      rintro r500 h
                      refine z_po (pc' := 231) (st' := [.int r500, .ref 75]) (v := (some (.int r500))) (L' := [(75, some 16, fun _ => x24), (75, some 17, fun _ => x25), (75, some 20, fun _ => x27), (75, some 21, fun _ => x31), (75, some 22, fun _ => x28), (75, some 23, fun _ => x26), (75, some 24, fun _ => x34), (75, some 25, fun _ => x30), (75, some 35, fun _ => o498), (75, some 36, fun _ => a1), (75, some 37, fun _ => a2), (75, some 38, fun _ => o499), (75, some 39, fun _ => x23), (88, none, o497), (89, none, x36), (90, none, x32)]) (K' := [(75, some 26, fun _ => x37)]) zco_170 rfl rfl rfl rfl rfl rfl rfl rfl ?_
                      refine zjn (G := (fun (j501 : Int32) => pm_ev C_X12_expression (d + 1) (pm_call M cost zext d) cost (false, false) 108 0 0 Q 241 [some (.ref 75), some (.int a1), some (.int a2), some (.int x21), some (.int r66)] [.int j501, .ref 75] 0 0 (zS p q I [(75, some 16, fun _ => x24), (75, some 17, fun _ => x25), (75, some 20, fun _ => x27), (75, some 21, fun _ => x31), (75, some 22, fun _ => x28), (75, some 23, fun _ => x26), (75, some 24, fun _ => x34), (75, some 25, fun _ => x30), (75, some 35, fun _ => o498), (75, some 36, fun _ => a1), (75, some 37, fun _ => a2), (75, some 38, fun _ => o499), (75, some 39, fun _ => x23), (88, none, o497), (89, none, x36), (90, none, x32)] J [(75, some 26, fun _ => x37)]))) (zwp_bind h) ?_ (fun h => ?_)
                      · rintro j501 h
                        refine z_virt (as := [.int j501]) (a := 75) (r := []) hc rfl rfl rfl rfl sh_75 rfl zco_178 rfl rfl rfl ?_
                        refine ok_X12_waitsFor_75 (zdp hd rfl) (zwp_mono (zwp_bind h) ?_)
                        rintro ⟨o502, o503⟩ h
                        refine z_po (pc' := 244) (st' := []) (v := none) (L' := [(75, some 16, fun _ => x24), (75, some 17, fun _ => x25), (75, some 20, fun _ => x27), (75, some 21, fun _ => x31), (75, some 22, fun _ => x28), (75, some 23, fun _ => x26), (75, some 24, fun _ => x34), (75, some 25, fun _ => x30), (75, some 35, fun _ => o498), (75, some 36, fun _ => a1), (75, some 37, fun _ => a2), (75, some 38, fun _ => o502), (75, some 39, fun _ => x23), (88, none, o497), (89, none, o503), (90, none, x32)]) (K' := [(75, some 26, fun _ => x37)]) zco_178 rfl rfl rfl rfl rfl rfl rfl rfl ?_
                        refine g_aload_n (pc' := 245)  hc rfl rfl rfl rfl ?_
                        refine z_virt (as := []) (a := 75) (r := []) hc rfl rfl rfl rfl sh_75 rfl zco_164 rfl rfl rfl ?_
                        refine ok_X12_goes_75 (zdp hd rfl) (zwp_mono (zwp_bind h) ?_)
                        rintro ⟨o504, o505, o506, o507, o508, o509, o510⟩ h
                        refine z_po (pc' := 248) (st' := []) (v := none) (L' := [(75, some 16, fun _ => x24), (75, some 17, fun _ => x25), (75, some 20, fun _ => o505), (75, some 21, fun _ => o508), (75, some 22, fun _ => o506), (75, some 23, fun _ => o504), (75, some 24, fun _ => o509), (75, some 25, fun _ => o507), (75, some 35, fun _ => o498), (75, some 36, fun _ => a1), (75, some 37, fun _ => a2), (75, some 38, fun _ => o502), (75, some 39, fun _ => x23), (88, none, o497), (89, none, o503), (90, none, x32)]) (K' := [(75, some 26, fun _ => o510)]) zco_164 rfl rfl rfl rfl rfl rfl rfl rfl ?_
                        refine g_aload_n (pc' := 249)  hc rfl rfl rfl rfl ?_
                        refine g_iconst (pc' := 250) (v := (0 : Int32)) hc rfl zki_0 rfl ?_
                        refine z_virt (as := [.int (0 : Int32)]) (a := 75) (r := []) hc rfl rfl rfl rfl sh_75 rfl zco_181 rfl rfl rfl ?_
                        refine ok_X12_operand_75 (zdp hd rfl) (zwp_mono (zwp_bind h) ?_)
                        rintro ⟨o511, o512, o513, o514, o515, o516, o517, o518, o519, o520, o521, o522, o523, o524, o525⟩ h
                        refine z_po (pc' := 253) (st' := []) (v := none) (L' := [(75, some 16, fun _ => o512), (75, some 17, fun _ => o513), (75, some 20, fun _ => o515), (75, some 21, fun _ => o519), (75, some 22, fun _ => o516), (75, some 23, fun _ => o514), (75, some 24, fun _ => o522), (75, some 25, fun _ => o518), (75, some 35, fun _ => o521), (75, some 36, fun _ => a1), (75, some 37, fun _ => a2), (75, some 38, fun _ => o523), (75, some 39, fun _ => o511), (88, none, o517), (89, none, o524), (90, none, o520)]) (K' := [(75, some 26, fun _ => o525)]) zco_181 rfl rfl rfl rfl rfl rfl rfl rfl ?_
                        refine g_goto hc rfl ?_
                        refine g_goto hc rfl ?_
                        replace h := zwp_l h
                        exact h (some (.int r66)) rfl
                      refine g_if_eq (pc' := 234) hc rfl rfl (fun hx => ?_) (fun hx => ?_)
                      · replace h := zwp_t h hx
                        refine g_bipush (pc' := 241) (v := (9 : Int32)) hc rfl zkb_9 rfl ?_
                        replace h := zws h
                        exact h
                      · replace h := zwp_f h hx
                        refine g_bipush (pc' := 236) (v := (8 : Int32)) hc rfl zkb_8 rfl ?_
                        refine g_goto hc rfl ?_
                        replace h := zws h
                        exact h
                · replace h := zwp_t h hx
                  refine g_aload_n (pc' := 155)  hc rfl rfl rfl rfl ?_
                  refine g_iconst (pc' := 156) (v := (4 : Int32)) hc rfl zki_4 rfl ?_
                  refine z_virt (as := [.int (4 : Int32)]) (a := 75) (r := []) hc rfl rfl rfl rfl sh_75 rfl zco_177 rfl rfl rfl ?_
                  refine ok_X12_drops_75 (zdp hd rfl) (zwp_mono (zwp_bind h) ?_)
                  rintro ⟨o526, o527, o528⟩ h
                  refine z_po (pc' := 159) (st' := []) (v := none) (L' := [(75, some 16, fun _ => x24), (75, some 17, fun _ => x25), (75, some 20, fun _ => x27), (75, some 21, fun _ => x31), (75, some 22, fun _ => x28), (75, some 23, fun _ => x26), (75, some 24, fun _ => x34), (75, some 25, fun _ => x30), (75, some 35, fun _ => o527), (75, some 36, fun _ => a1), (75, some 37, fun _ => a2), (75, some 38, fun _ => o528), (75, some 39, fun _ => x23), (88, none, o526), (89, none, x36), (90, none, x32)]) (K' := [(75, some 26, fun _ => x37)]) zco_177 rfl rfl rfl rfl rfl rfl rfl rfl ?_
                  refine g_aload_n (pc' := 160)  hc rfl rfl rfl rfl ?_
                  refine g_aload_n (pc' := 161)  hc rfl rfl rfl rfl ?_
                  refine g_bipush (pc' := 163) (v := (60 : Int32)) hc rfl zkb_60 rfl ?_
                  refine z_virt (as := [.int (60 : Int32)]) (a := 75) (r := [.ref 75]) hc rfl rfl rfl rfl sh_75 rfl zco_170 rfl rfl rfl ?_
                  refine ok_X12_isSign_75 (zdp hd rfl) (zwp_mono (zwp_bind h) ?_)
                  rintro r529 h
                  refine z_po (pc' := 166) (st' := [.int r529, .ref 75]) (v := (some (.int r529))) (L' := [(75, some 16, fun _ => x24), (75, some 17, fun _ => x25), (75, some 20, fun _ => x27), (75, some 21, fun _ => x31), (75, some 22, fun _ => x28), (75, some 23, fun _ => x26), (75, some 24, fun _ => x34), (75, some 25, fun _ => x30), (75, some 35, fun _ => o527), (75, some 36, fun _ => a1), (75, some 37, fun _ => a2), (75, some 38, fun _ => o528), (75, some 39, fun _ => x23), (88, none, o526), (89, none, x36), (90, none, x32)]) (K' := [(75, some 26, fun _ => x37)]) zco_170 rfl rfl rfl rfl rfl rfl rfl rfl ?_
                  refine zjn (G := (fun (j530 : Int32) => pm_ev C_X12_expression (d + 1) (pm_call M cost zext d) cost (false, false) 108 0 0 Q 176 [some (.ref 75), some (.int a1), some (.int a2), some (.int x21), some (.int r66)] [.int j530, .ref 75] 0 0 (zS p q I [(75, some 16, fun _ => x24), (75, some 17, fun _ => x25), (75, some 20, fun _ => x27), (75, some 21, fun _ => x31), (75, some 22, fun _ => x28), (75, some 23, fun _ => x26), (75, some 24, fun _ => x34), (75, some 25, fun _ => x30), (75, some 35, fun _ => o527), (75, some 36, fun _ => a1), (75, some 37, fun _ => a2), (75, some 38, fun _ => o528), (75, some 39, fun _ => x23), (88, none, o526), (89, none, x36), (90, none, x32)] J [(75, some 26, fun _ => x37)]))) (zwp_bind h) ?_ (fun h => ?_)
                  · rintro j530 h
                    refine z_virt (as := [.int j530]) (a := 75) (r := []) hc rfl rfl rfl rfl sh_75 rfl zco_178 rfl rfl rfl ?_
                    refine ok_X12_waitsFor_75 (zdp hd rfl) (zwp_mono (zwp_bind h) ?_)
                    rintro ⟨o531, o532⟩ h
                    refine z_po (pc' := 179) (st' := []) (v := none) (L' := [(75, some 16, fun _ => x24), (75, some 17, fun _ => x25), (75, some 20, fun _ => x27), (75, some 21, fun _ => x31), (75, some 22, fun _ => x28), (75, some 23, fun _ => x26), (75, some 24, fun _ => x34), (75, some 25, fun _ => x30), (75, some 35, fun _ => o527), (75, some 36, fun _ => a1), (75, some 37, fun _ => a2), (75, some 38, fun _ => o531), (75, some 39, fun _ => x23), (88, none, o526), (89, none, o532), (90, none, x32)]) (K' := [(75, some 26, fun _ => x37)]) zco_178 rfl rfl rfl rfl rfl rfl rfl rfl ?_
                    refine g_aload_n (pc' := 180)  hc rfl rfl rfl rfl ?_
                    refine z_getR (pc' := 183)  hc rfl rfl rfl sh_75 rfl rfl ?_
                    refine g_aload_n (pc' := 184)  hc rfl rfl rfl rfl ?_
                    refine z_getI (pc' := 187) (v := x23) hc rfl rfl rfl sh_75 rfl rfl rfl ?_
                    refine g_iconst (pc' := 188) (v := (1 : Int32)) hc rfl zki_1 rfl ?_
                    have hb := (zwp_bnd h).1
                    replace h := (zwp_bnd h).2
                    refine z_bastore (pc' := 189) (g := x32) (L' := [(75, some 16, fun _ => x24), (75, some 17, fun _ => x25), (75, some 20, fun _ => x27), (75, some 21, fun _ => x31), (75, some 22, fun _ => x28), (75, some 23, fun _ => x26), (75, some 24, fun _ => x34), (75, some 25, fun _ => x30), (75, some 35, fun _ => o527), (75, some 36, fun _ => a1), (75, some 37, fun _ => a2), (75, some 38, fun _ => o531), (75, some 39, fun _ => x23), (88, none, o526), (89, none, o532), (90, none, (upd x32 x23.toNatClampNeg (vp_nar .boolean (1 : Int32))))]) hc rfl rfl sh_90 hb rfl rfl rfl rfl ?_
                    refine g_aload_n (pc' := 190)  hc rfl rfl rfl rfl ?_
                    refine z_virt (as := []) (a := 75) (r := []) hc rfl rfl rfl rfl sh_75 rfl zco_164 rfl rfl rfl ?_
                    refine ok_X12_goes_75 (zdp hd rfl) (zwp_mono (zwp_bind h) ?_)
                    rintro ⟨o533, o534, o535, o536, o537, o538, o539⟩ h
                    refine z_po (pc' := 193) (st' := []) (v := none) (L' := [(75, some 16, fun _ => x24), (75, some 17, fun _ => x25), (75, some 20, fun _ => o534), (75, some 21, fun _ => o537), (75, some 22, fun _ => o535), (75, some 23, fun _ => o533), (75, some 24, fun _ => o538), (75, some 25, fun _ => o536), (75, some 35, fun _ => o527), (75, some 36, fun _ => a1), (75, some 37, fun _ => a2), (75, some 38, fun _ => o531), (75, some 39, fun _ => x23), (88, none, o526), (89, none, o532), (90, none, (upd x32 x23.toNatClampNeg (vp_nar .boolean (1 : Int32))))]) (K' := [(75, some 26, fun _ => o539)]) zco_164 rfl rfl rfl rfl rfl rfl rfl rfl ?_
                    refine g_aload_n (pc' := 194)  hc rfl rfl rfl rfl ?_
                    refine g_iconst (pc' := 195) (v := (0 : Int32)) hc rfl zki_0 rfl ?_
                    refine z_virt (as := [.int (0 : Int32)]) (a := 75) (r := []) hc rfl rfl rfl rfl sh_75 rfl zco_181 rfl rfl rfl ?_
                    refine ok_X12_operand_75 (zdp hd rfl) (zwp_mono (zwp_bind h) ?_)
                    rintro ⟨o540, o541, o542, o543, o544, o545, o546, o547, o548, o549, o550, o551, o552, o553, o554⟩ h
                    refine z_po (pc' := 198) (st' := []) (v := none) (L' := [(75, some 16, fun _ => o541), (75, some 17, fun _ => o542), (75, some 20, fun _ => o544), (75, some 21, fun _ => o548), (75, some 22, fun _ => o545), (75, some 23, fun _ => o543), (75, some 24, fun _ => o551), (75, some 25, fun _ => o547), (75, some 35, fun _ => o550), (75, some 36, fun _ => a1), (75, some 37, fun _ => a2), (75, some 38, fun _ => o552), (75, some 39, fun _ => o540), (88, none, o546), (89, none, o553), (90, none, o549)]) (K' := [(75, some 26, fun _ => o554)]) zco_181 rfl rfl rfl rfl rfl rfl rfl rfl ?_
                    refine g_goto hc rfl ?_
                    refine g_goto hc rfl ?_
                    replace h := zwp_l h
                    exact h (some (.int r66)) rfl
                  refine g_if_eq (pc' := 169) hc rfl rfl (fun hx => ?_) (fun hx => ?_)
                  · replace h := zwp_t h hx
                    refine g_bipush (pc' := 176) (v := (7 : Int32)) hc rfl zkb_7 rfl ?_
                    replace h := zws h
                    exact h
                  · replace h := zwp_f h hx
                    refine g_bipush (pc' := 171) (v := (6 : Int32)) hc rfl zkb_6 rfl ?_
                    refine g_goto hc rfl ?_
                    replace h := zws h
                    exact h
          · replace h := zwp_t h hx
            refine g_aload_n (pc' := 71)  hc rfl rfl rfl rfl ?_
            refine g_iload (pc' := 73)  hc rfl rfl rfl ?_
            refine g_bipush (pc' := 75) (v := (13 : Int32)) hc rfl zkb_13 rfl ?_
            refine zjn (G := (fun (j555 : Int32) => pm_ev C_X12_expression (d + 1) (pm_call M cost zext d) cost (false, false) 108 0 0 Q 83 [some (.ref 75), some (.int a1), some (.int a2), some (.int x21), some (.int r66)] [.int j555, .ref 75] 0 0 (zS p q I [(75, some 16, fun _ => x24), (75, some 17, fun _ => x25), (75, some 20, fun _ => x27), (75, some 21, fun _ => x31), (75, some 22, fun _ => x28), (75, some 23, fun _ => x26), (75, some 24, fun _ => x34), (75, some 25, fun _ => x30), (75, some 35, fun _ => x33), (75, some 36, fun _ => a1), (75, some 37, fun _ => a2), (75, some 38, fun _ => x35), (75, some 39, fun _ => x23), (88, none, x29), (89, none, x36), (90, none, x32)] J [(75, some 26, fun _ => x37)]))) (zwp_bind h) ?_ (fun h => ?_)
            · rintro j555 h
              refine z_virt (as := [.int j555]) (a := 75) (r := []) hc rfl rfl rfl rfl sh_75 rfl zco_177 rfl rfl rfl ?_
              refine ok_X12_drops_75 (zdp hd rfl) (zwp_mono (zwp_bind h) ?_)
              rintro ⟨o556, o557, o558⟩ h
              refine z_po (pc' := 86) (st' := []) (v := none) (L' := [(75, some 16, fun _ => x24), (75, some 17, fun _ => x25), (75, some 20, fun _ => x27), (75, some 21, fun _ => x31), (75, some 22, fun _ => x28), (75, some 23, fun _ => x26), (75, some 24, fun _ => x34), (75, some 25, fun _ => x30), (75, some 35, fun _ => o557), (75, some 36, fun _ => a1), (75, some 37, fun _ => a2), (75, some 38, fun _ => o558), (75, some 39, fun _ => x23), (88, none, o556), (89, none, x36), (90, none, x32)]) (K' := [(75, some 26, fun _ => x37)]) zco_177 rfl rfl rfl rfl rfl rfl rfl rfl ?_
              refine g_aload_n (pc' := 87)  hc rfl rfl rfl rfl ?_
              refine g_iload (pc' := 89)  hc rfl rfl rfl ?_
              refine g_bipush (pc' := 91) (v := (13 : Int32)) hc rfl zkb_13 rfl ?_
              refine zjn (G := (fun (j559 : Int32) => pm_ev C_X12_expression (d + 1) (pm_call M cost zext d) cost (false, false) 108 0 0 Q 99 [some (.ref 75), some (.int a1), some (.int a2), some (.int x21), some (.int r66)] [.int j559, .ref 75] 0 0 (zS p q I [(75, some 16, fun _ => x24), (75, some 17, fun _ => x25), (75, some 20, fun _ => x27), (75, some 21, fun _ => x31), (75, some 22, fun _ => x28), (75, some 23, fun _ => x26), (75, some 24, fun _ => x34), (75, some 25, fun _ => x30), (75, some 35, fun _ => o557), (75, some 36, fun _ => a1), (75, some 37, fun _ => a2), (75, some 38, fun _ => o558), (75, some 39, fun _ => x23), (88, none, o556), (89, none, x36), (90, none, x32)] J [(75, some 26, fun _ => x37)]))) (zwp_bind h) ?_ (fun h => ?_)
              · rintro j559 h
                refine z_virt (as := [.int j559]) (a := 75) (r := []) hc rfl rfl rfl rfl sh_75 rfl zco_178 rfl rfl rfl ?_
                refine ok_X12_waitsFor_75 (zdp hd rfl) (zwp_mono (zwp_bind h) ?_)
                rintro ⟨o560, o561⟩ h
                refine z_po (pc' := 102) (st' := []) (v := none) (L' := [(75, some 16, fun _ => x24), (75, some 17, fun _ => x25), (75, some 20, fun _ => x27), (75, some 21, fun _ => x31), (75, some 22, fun _ => x28), (75, some 23, fun _ => x26), (75, some 24, fun _ => x34), (75, some 25, fun _ => x30), (75, some 35, fun _ => o557), (75, some 36, fun _ => a1), (75, some 37, fun _ => a2), (75, some 38, fun _ => o560), (75, some 39, fun _ => x23), (88, none, o556), (89, none, o561), (90, none, x32)]) (K' := [(75, some 26, fun _ => x37)]) zco_178 rfl rfl rfl rfl rfl rfl rfl rfl ?_
                refine g_aload_n (pc' := 103)  hc rfl rfl rfl rfl ?_
                refine z_getR (pc' := 106)  hc rfl rfl rfl sh_75 rfl rfl ?_
                refine g_aload_n (pc' := 107)  hc rfl rfl rfl rfl ?_
                refine z_getI (pc' := 110) (v := x23) hc rfl rfl rfl sh_75 rfl rfl rfl ?_
                refine g_iconst (pc' := 111) (v := (0 : Int32)) hc rfl zki_0 rfl ?_
                have hb := (zwp_bnd h).1
                replace h := (zwp_bnd h).2
                refine z_bastore (pc' := 112) (g := x32) (L' := [(75, some 16, fun _ => x24), (75, some 17, fun _ => x25), (75, some 20, fun _ => x27), (75, some 21, fun _ => x31), (75, some 22, fun _ => x28), (75, some 23, fun _ => x26), (75, some 24, fun _ => x34), (75, some 25, fun _ => x30), (75, some 35, fun _ => o557), (75, some 36, fun _ => a1), (75, some 37, fun _ => a2), (75, some 38, fun _ => o560), (75, some 39, fun _ => x23), (88, none, o556), (89, none, o561), (90, none, (upd x32 x23.toNatClampNeg (vp_nar .boolean (0 : Int32))))]) hc rfl rfl sh_90 hb rfl rfl rfl rfl ?_
                refine g_aload_n (pc' := 113)  hc rfl rfl rfl rfl ?_
                refine z_virt (as := []) (a := 75) (r := []) hc rfl rfl rfl rfl sh_75 rfl zco_164 rfl rfl rfl ?_
                refine ok_X12_goes_75 (zdp hd rfl) (zwp_mono (zwp_bind h) ?_)
                rintro ⟨o562, o563, o564, o565, o566, o567, o568⟩ h
                refine z_po (pc' := 116) (st' := []) (v := none) (L' := [(75, some 16, fun _ => x24), (75, some 17, fun _ => x25), (75, some 20, fun _ => o563), (75, some 21, fun _ => o566), (75, some 22, fun _ => o564), (75, some 23, fun _ => o562), (75, some 24, fun _ => o567), (75, some 25, fun _ => o565), (75, some 35, fun _ => o557), (75, some 36, fun _ => a1), (75, some 37, fun _ => a2), (75, some 38, fun _ => o560), (75, some 39, fun _ => x23), (88, none, o556), (89, none, o561), (90, none, (upd x32 x23.toNatClampNeg (vp_nar .boolean (0 : Int32))))]) (K' := [(75, some 26, fun _ => o568)]) zco_164 rfl rfl rfl rfl rfl rfl rfl rfl ?_
                refine g_aload_n (pc' := 117)  hc rfl rfl rfl rfl ?_
                refine g_iconst (pc' := 118) (v := (1 : Int32)) hc rfl zki_1 rfl ?_
                refine z_virt (as := [.int (1 : Int32)]) (a := 75) (r := []) hc rfl rfl rfl rfl sh_75 rfl zco_181 rfl rfl rfl ?_
                refine ok_X12_operand_75 (zdp hd rfl) (zwp_mono (zwp_bind h) ?_)
                rintro ⟨o569, o570, o571, o572, o573, o574, o575, o576, o577, o578, o579, o580, o581, o582, o583⟩ h
                refine z_po (pc' := 121) (st' := []) (v := none) (L' := [(75, some 16, fun _ => o570), (75, some 17, fun _ => o571), (75, some 20, fun _ => o573), (75, some 21, fun _ => o577), (75, some 22, fun _ => o574), (75, some 23, fun _ => o572), (75, some 24, fun _ => o580), (75, some 25, fun _ => o576), (75, some 35, fun _ => o579), (75, some 36, fun _ => a1), (75, some 37, fun _ => a2), (75, some 38, fun _ => o581), (75, some 39, fun _ => o569), (88, none, o575), (89, none, o582), (90, none, o578)]) (K' := [(75, some 26, fun _ => o583)]) zco_181 rfl rfl rfl rfl rfl rfl rfl rfl ?_
                refine g_goto hc rfl ?_
                refine g_goto hc rfl ?_
                replace h := zwp_l h
                exact h (some (.int r66)) rfl
              refine g_icmp_ne (pc' := 94) hc rfl rfl (fun hx => ?_) (fun hx => ?_)
              · replace h := zwp_f h hx
                refine g_iconst (pc' := 99) (v := (5 : Int32)) hc rfl zki_5 rfl ?_
                replace h := zws h
                exact h
              · replace h := zwp_t h hx
                refine g_iconst (pc' := 95) (v := (4 : Int32)) hc rfl zki_4 rfl ?_
                refine g_goto hc rfl ?_
                replace h := zws h
                exact h
            refine g_icmp_ne (pc' := 78) hc rfl rfl (fun hx => ?_) (fun hx => ?_)
            · replace h := zwp_f h hx
              refine g_iconst (pc' := 83) (v := (1 : Int32)) hc rfl zki_1 rfl ?_
              replace h := zws h
              exact h
            · replace h := zwp_t h hx
              refine g_iconst (pc' := 79) (v := (2 : Int32)) hc rfl zki_2 rfl ?_
              refine g_goto hc rfl ?_
              replace h := zws h
              exact h
  · replace h := zwp_t h hx
    replace h := zws h
    exact g_return hc rfl rfl (fun _ => ⟨rfl, rfl⟩) h
set_option maxHeartbeats 20000000 in
set_option maxRecDepth 4000 in
theorem ok_X12_line_75 {p q : Nat} {I : pI} {J : pJ} {Q : pQ} {d : Nat} (hd : 7 ≤ d) (h : zwp (f_X12_line (I 75 39) (I 75 16) (I 75 17) (I 75 36) (I 75 37) (I 75 23) (I 75 19) (I 75 32) (I 75 29) (I 75 33) (I 75 34) (I 86) (I 75 31) (I 87) (I 85) (I 75 30) (I 75 28) (I 83) (I 84) (I 75 27) (I 75 20) (I 75 22) (I 88) (I 75 25) (I 75 21) (I 81) (I 90) (I 75 35) (I 75 24) (I 75 38) (I 89) (J 75 26)) (fun w => match w with | (o0, o1, o2, o3, o4, o5, o6, o7, o8, o9, o10, o11, o12, o13, o14, o15, o16, o17, o18, o19, o20, o21, o22, o23, o24, o25, o26, o27) => Q (.inl none) (zS p q I [(75, some 16, fun _ => o1), (75, some 17, fun _ => o2), (75, some 20, fun _ => o17), (75, some 21, fun _ => o21), (75, some 22, fun _ => o18), (75, some 23, fun _ => o5), (75, some 24, fun _ => o24), (75, some 25, fun _ => o20), (75, some 29, fun _ => o7), (75, some 30, fun _ => o14), (75, some 31, fun _ => o11), (75, some 32, fun _ => o6), (75, some 33, fun _ => o8), (75, some 34, fun _ => o9), (75, some 35, fun _ => o23), (75, some 36, fun _ => o3), (75, some 37, fun _ => o4), (75, some 38, fun _ => o25), (75, some 39, fun _ => o0), (83, none, o15), (84, none, o16), (85, none, o13), (86, none, o10), (87, none, o12), (88, none, o19), (89, none, o26), (90, none, o22)] J [(75, some 26, fun _ => o27)]))) : pm_call M cost zext d 190 [.ref 75] (pm_st 108 (shp p q) I J) Q := by
  obtain ⟨d, rfl⟩ := zd1 hd rfl
  have hc := pm_call_m (M := M) (cost := cost) zext_m d
  refine z_in (L := [(75, some 16, fun _ => (I 75 16)), (75, some 17, fun _ => (I 75 17)), (75, some 20, fun _ => (I 75 20)), (75, some 21, fun _ => (I 75 21)), (75, some 22, fun _ => (I 75 22)), (75, some 23, fun _ => (I 75 23)), (75, some 24, fun _ => (I 75 24)), (75, some 25, fun _ => (I 75 25)), (75, some 29, fun _ => (I 75 29)), (75, some 30, fun _ => (I 75 30)), (75, some 31, fun _ => (I 75 31)), (75, some 32, fun _ => (I 75 32)), (75, some 33, fun _ => (I 75 33)), (75, some 34, fun _ => (I 75 34)), (75, some 35, fun _ => (I 75 35)), (75, some 36, fun _ => (I 75 36)), (75, some 37, fun _ => (I 75 37)), (75, some 38, fun _ => (I 75 38)), (75, some 39, fun _ => (I 75 39)), (83, none, (I 83)), (84, none, (I 84)), (85, none, (I 85)), (86, none, (I 86)), (87, none, (I 87)), (88, none, (I 88)), (89, none, (I 89)), (90, none, (I 90))]) (K := [(75, some 26, fun _ => (J 75 26))]) (ls := [some (.ref 75), none]) zmt_190 zco_190 rfl rfl (zid_s (zid_s (zid_s (zid_s (zid_s (zid_s (zid_s (zid_s (zid_s (zid_s (zid_s (zid_s (zid_s (zid_s (zid_s (zid_s (zid_s (zid_s (zid_s (zid_a (zid_a (zid_a (zid_a (zid_a (zid_a (zid_a (zid_a zid_n))))))))))))))))))))))))))) (zid_s zid_n) ?_
  delta f_X12_line at h
  refine g_aload_n (pc' := 1)  hc rfl rfl rfl rfl ?_
  refine z_virt (as := []) (a := 75) (r := []) hc rfl rfl rfl rfl sh_75 rfl zco_167 rfl rfl rfl ?_
  refine ok_X12_knownWord_75 (zdp hd rfl) (zwp_mono (zwp_bind h) ?_)
  rintro r1 h
  refine z_po (pc' := 4) (st' := [.int r1]) (v := (some (.int r1))) (L' := [(75, some 16, fun _ => (I 75 16)), (75, some 17, fun _ => (I 75 17)), (75, some 20, fun _ => (I 75 20)), (75, some 21, fun _ => (I 75 21)), (75, some 22, fun _ => (I 75 22)), (75, some 23, fun _ => (I 75 23)), (75, some 24, fun _ => (I 75 24)), (75, some 25, fun _ => (I 75 25)), (75, some 29, fun _ => (I 75 29)), (75, some 30, fun _ => (I 75 30)), (75, some 31, fun _ => (I 75 31)), (75, some 32, fun _ => (I 75 32)), (75, some 33, fun _ => (I 75 33)), (75, some 34, fun _ => (I 75 34)), (75, some 35, fun _ => (I 75 35)), (75, some 36, fun _ => (I 75 36)), (75, some 37, fun _ => (I 75 37)), (75, some 38, fun _ => (I 75 38)), (75, some 39, fun _ => (I 75 39)), (83, none, (I 83)), (84, none, (I 84)), (85, none, (I 85)), (86, none, (I 86)), (87, none, (I 87)), (88, none, (I 88)), (89, none, (I 89)), (90, none, (I 90))]) (K' := [(75, some 26, fun _ => (J 75 26))]) zco_167 rfl rfl rfl rfl rfl rfl rfl rfl ?_
  refine g_istore_n (pc' := 5) (ls1 := [some (.ref 75), some (.int r1)]) hc rfl (zlt rfl) rfl rfl ?_
  refine g_iload_n (pc' := 6)  hc rfl rfl rfl ?_
  refine g_bipush (pc' := 8) (v := (7 : Int32)) hc rfl zkb_7 rfl ?_
  refine zjn (G := (fun (g : Int32 × Int32 × Int32 × Int32 × Int32 × Int32 × Int32 × Int32 × Int32 × Int32 × (Nat → Int32) × Int32 × (Nat → Int32) × (Nat → Int32) × Int32 × (Nat → Int32) × (Nat → Int32) × Int32 × Int32 × (Nat → Int32) × Int32 × Int32 × (Nat → Int32) × Int32 × Int32 × Int32 × (Nat → Int32) × Int64) => match g with | (j2, j3, j4, j5, j6, j7, j8, j9, j10, j11, j12, j13, j14, j15, j16, j17, j18, j19, j20, j21, j22, j23, j24, j25, j26, j27, j28, j29) => pm_ev C_X12_line (d + 1) (pm_call M cost zext d) cost (false, false) 108 0 0 Q 263 [some (.ref 75), some (.int r1)] [] 0 0 (zS p q I [(75, some 16, fun _ => j3), (75, some 17, fun _ => j4), (75, some 20, fun _ => j19), (75, some 21, fun _ => j23), (75, some 22, fun _ => j20), (75, some 23, fun _ => j7), (75, some 24, fun _ => j26), (75, some 25, fun _ => j22), (75, some 29, fun _ => j9), (75, some 30, fun _ => j16), (75, some 31, fun _ => j13), (75, some 32, fun _ => j8), (75, some 33, fun _ => j10), (75, some 34, fun _ => j11), (75, some 35, fun _ => j25), (75, some 36, fun _ => j5), (75, some 37, fun _ => j6), (75, some 38, fun _ => j27), (75, some 39, fun _ => j2), (83, none, j17), (84, none, j18), (85, none, j15), (86, none, j12), (87, none, j14), (88, none, j21), (89, none, j28), (90, none, j24)] J [(75, some 26, fun _ => j29)]))) (zwp_bind h) ?_ (fun h => ?_)
  · rintro ⟨j2, j3, j4, j5, j6, j7, j8, j9, j10, j11, j12, j13, j14, j15, j16, j17, j18, j19, j20, j21, j22, j23, j24, j25, j26, j27, j28, j29⟩ h
    refine g_aload_n (pc' := 264)  hc rfl rfl rfl rfl ?_
    refine g_aload_n (pc' := 265)  hc rfl rfl rfl rfl ?_
    refine g_bipush (pc' := 267) (v := (59 : Int32)) hc rfl zkb_59 rfl ?_
    refine z_virt (as := [.int (59 : Int32)]) (a := 75) (r := [.ref 75]) hc rfl rfl rfl rfl sh_75 rfl zco_170 rfl rfl rfl ?_
    refine ok_X12_isSign_75 (zdp hd rfl) (zwp_mono (zwp_bind h) ?_)
    rintro r30 h
    refine z_po (pc' := 270) (st' := [.int r30, .ref 75]) (v := (some (.int r30))) (L' := [(75, some 16, fun _ => j3), (75, some 17, fun _ => j4), (75, some 20, fun _ => j19), (75, some 21, fun _ => j23), (75, some 22, fun _ => j20), (75, some 23, fun _ => j7), (75, some 24, fun _ => j26), (75, some 25, fun _ => j22), (75, some 29, fun _ => j9), (75, some 30, fun _ => j16), (75, some 31, fun _ => j13), (75, some 32, fun _ => j8), (75, some 33, fun _ => j10), (75, some 34, fun _ => j11), (75, some 35, fun _ => j25), (75, some 36, fun _ => j5), (75, some 37, fun _ => j6), (75, some 38, fun _ => j27), (75, some 39, fun _ => j2), (83, none, j17), (84, none, j18), (85, none, j15), (86, none, j12), (87, none, j14), (88, none, j21), (89, none, j28), (90, none, j24)]) (K' := [(75, some 26, fun _ => j29)]) zco_170 rfl rfl rfl rfl rfl rfl rfl rfl ?_
    refine z_virt (as := [.int r30]) (a := 75) (r := []) hc rfl rfl rfl rfl sh_75 rfl zco_171 rfl rfl rfl ?_
    refine ok_X12_need_75 (zdp hd rfl) (zwp_mono (zwp_bind h) ?_)
    rintro ⟨o31, o32, o33, o34, o35, o36, o37, o38, o39⟩ h
    refine z_po (pc' := 273) (st' := []) (v := none) (L' := [(75, some 16, fun _ => o31), (75, some 17, fun _ => o32), (75, some 20, fun _ => o34), (75, some 21, fun _ => o37), (75, some 22, fun _ => o35), (75, some 23, fun _ => o33), (75, some 24, fun _ => o38), (75, some 25, fun _ => o36), (75, some 29, fun _ => j9), (75, some 30, fun _ => j16), (75, some 31, fun _ => j13), (75, some 32, fun _ => j8), (75, some 33, fun _ => j10), (75, some 34, fun _ => j11), (75, some 35, fun _ => j25), (75, some 36, fun _ => j5), (75, some 37, fun _ => j6), (75, some 38, fun _ => j27), (75, some 39, fun _ => j2), (83, none, j17), (84, none, j18), (85, none, j15), (86, none, j12), (87, none, j14), (88, none, j21), (89, none, j28), (90, none, j24)]) (K' := [(75, some 26, fun _ => o39)]) zco_171 rfl rfl rfl rfl rfl rfl rfl rfl ?_
    replace h := zws h
    exact g_return hc rfl rfl (fun _ => ⟨rfl, rfl⟩) h
  refine g_icmp_ne (pc' := 11) hc rfl rfl (fun hx => ?_) (fun hx => ?_)
  · replace h := zwp_f h hx
    refine g_iload_n (pc' := 28)  hc rfl rfl rfl ?_
    refine g_bipush (pc' := 30) (v := (8 : Int32)) hc rfl zkb_8 rfl ?_
    refine g_icmp_ne (pc' := 33) hc rfl rfl (fun hx => ?_) (fun hx => ?_)
    · replace h := zwp_f h hx
      refine g_iload_n (pc' := 63)  hc rfl rfl rfl ?_
      refine g_bipush (pc' := 65) (v := (9 : Int32)) hc rfl zkb_9 rfl ?_
      refine g_icmp_ne (pc' := 68) hc rfl rfl (fun hx => ?_) (fun hx => ?_)
      · replace h := zwp_f h hx
        refine g_iload_n (pc' := 98)  hc rfl rfl rfl ?_
        refine g_iconst (pc' := 99) (v := (2 : Int32)) hc rfl zki_2 rfl ?_
        refine g_icmp_ne (pc' := 102) hc rfl rfl (fun hx => ?_) (fun hx => ?_)
        · replace h := zwp_f h hx
          refine g_iload_n (pc' := 130)  hc rfl rfl rfl ?_
          refine g_bipush (pc' := 132) (v := (10 : Int32)) hc rfl zkb_10 rfl ?_
          refine g_icmp_ne (pc' := 135) hc rfl rfl (fun hx => ?_) (fun hx => ?_)
          · replace h := zwp_f h hx
            refine g_iload_n (pc' := 171)  hc rfl rfl rfl ?_
            refine g_bipush (pc' := 173) (v := (11 : Int32)) hc rfl zkb_11 rfl ?_
            refine g_icmp_ne (pc' := 176) hc rfl rfl (fun hx => ?_) (fun hx => ?_)
            · replace h := zwp_f h hx
              refine g_iload_n (pc' := 215)  hc rfl rfl rfl ?_
              refine g_bipush (pc' := 217) (v := (12 : Int32)) hc rfl zkb_12 rfl ?_
              refine g_icmp_ne (pc' := 220) hc rfl rfl (fun hx => ?_) (fun hx => ?_)
              · replace h := zwp_f h hx
                refine g_aload_n (pc' := 259)  hc rfl rfl rfl rfl ?_
                refine g_iconst (pc' := 260) (v := (1 : Int32)) hc rfl zki_1 rfl ?_
                refine z_virt (as := [.int (1 : Int32)]) (a := 75) (r := []) hc rfl rfl rfl rfl sh_75 rfl zco_168 rfl rfl rfl ?_
                refine ok_X12_wrong_75 (zdp hd rfl) (zwp_mono (zwp_bind h) ?_)
                rintro ⟨o40, o41⟩ h
                refine z_po (pc' := 263) (st' := []) (v := none) (L' := [(75, some 16, fun _ => o40), (75, some 17, fun _ => o41), (75, some 20, fun _ => (I 75 20)), (75, some 21, fun _ => (I 75 21)), (75, some 22, fun _ => (I 75 22)), (75, some 23, fun _ => (I 75 23)), (75, some 24, fun _ => (I 75 24)), (75, some 25, fun _ => (I 75 25)), (75, some 29, fun _ => (I 75 29)), (75, some 30, fun _ => (I 75 30)), (75, some 31, fun _ => (I 75 31)), (75, some 32, fun _ => (I 75 32)), (75, some 33, fun _ => (I 75 33)), (75, some 34, fun _ => (I 75 34)), (75, some 35, fun _ => (I 75 35)), (75, some 36, fun _ => (I 75 36)), (75, some 37, fun _ => (I 75 37)), (75, some 38, fun _ => (I 75 38)), (75, some 39, fun _ => (I 75 39)), (83, none, (I 83)), (84, none, (I 84)), (85, none, (I 85)), (86, none, (I 86)), (87, none, (I 87)), (88, none, (I 88)), (89, none, (I 89)), (90, none, (I 90))]) (K' := [(75, some 26, fun _ => (J 75 26))]) zco_168 rfl rfl rfl rfl rfl rfl rfl rfl ?_
                replace h := zws h
                exact h
              · replace h := zwp_t h hx
                refine g_aload_n (pc' := 221)  hc rfl rfl rfl rfl ?_
                refine g_iconst (pc' := 222) (v := (0 : Int32)) hc rfl zki_0 rfl ?_
                refine g_aload_n (pc' := 223)  hc rfl rfl rfl rfl ?_
                refine z_getI (pc' := 226) (v := (I 75 34)) hc rfl rfl rfl sh_75 rfl rfl rfl ?_
                refine g_iconst (pc' := 227) (v := (-1 : Int32)) hc rfl zki_m1 rfl ?_
                refine zjn (G := (fun (j42 : Int32) => pm_ev C_X12_line (d + 1) (pm_call M cost zext d) cost (false, false) 108 0 0 Q 235 [some (.ref 75), some (.int r1)] [.int j42, .int (0 : Int32), .ref 75] 0 0 (zS p q I [(75, some 16, fun _ => (I 75 16)), (75, some 17, fun _ => (I 75 17)), (75, some 20, fun _ => (I 75 20)), (75, some 21, fun _ => (I 75 21)), (75, some 22, fun _ => (I 75 22)), (75, some 23, fun _ => (I 75 23)), (75, some 24, fun _ => (I 75 24)), (75, some 25, fun _ => (I 75 25)), (75, some 29, fun _ => (I 75 29)), (75, some 30, fun _ => (I 75 30)), (75, some 31, fun _ => (I 75 31)), (75, some 32, fun _ => (I 75 32)), (75, some 33, fun _ => (I 75 33)), (75, some 34, fun _ => (I 75 34)), (75, some 35, fun _ => (I 75 35)), (75, some 36, fun _ => (I 75 36)), (75, some 37, fun _ => (I 75 37)), (75, some 38, fun _ => (I 75 38)), (75, some 39, fun _ => (I 75 39)), (83, none, (I 83)), (84, none, (I 84)), (85, none, (I 85)), (86, none, (I 86)), (87, none, (I 87)), (88, none, (I 88)), (89, none, (I 89)), (90, none, (I 90))] J [(75, some 26, fun _ => (J 75 26))]))) (zwp_bind h) ?_ (fun h => ?_)
                · rintro j42 h
                  refine z_virt (as := [.int (0 : Int32), .int j42]) (a := 75) (r := []) hc rfl rfl rfl rfl sh_75 rfl zco_185 rfl rfl rfl ?_
                  refine ok_X12_begins_75 (zdp hd rfl) (zwp_mono (zwp_bind h) ?_)
                  rintro ⟨r52, o43, o44, o45, o46, o47, o48, o49, o50, o51⟩ h
                  refine z_po (pc' := 238) (st' := [.int r52]) (v := (some (.int r52))) (L' := [(75, some 16, fun _ => o43), (75, some 17, fun _ => o44), (75, some 20, fun _ => o46), (75, some 21, fun _ => o49), (75, some 22, fun _ => o47), (75, some 23, fun _ => o45), (75, some 24, fun _ => o50), (75, some 25, fun _ => o48), (75, some 29, fun _ => (I 75 29)), (75, some 30, fun _ => (I 75 30)), (75, some 31, fun _ => (I 75 31)), (75, some 32, fun _ => (I 75 32)), (75, some 33, fun _ => (I 75 33)), (75, some 34, fun _ => (I 75 34)), (75, some 35, fun _ => (I 75 35)), (75, some 36, fun _ => (I 75 36)), (75, some 37, fun _ => (I 75 37)), (75, some 38, fun _ => (I 75 38)), (75, some 39, fun _ => (I 75 39)), (83, none, (I 83)), (84, none, (I 84)), (85, none, (I 85)), (86, none, (I 86)), (87, none, (I 87)), (88, none, (I 88)), (89, none, (I 89)), (90, none, (I 90))]) (K' := [(75, some 26, fun _ => o51)]) zco_185 rfl rfl rfl rfl rfl rfl rfl rfl ?_
                  refine g_if_eq (pc' := 241) hc rfl rfl (fun hx => ?_) (fun hx => ?_)
                  · replace h := zwp_t h hx
                    replace h := zws h
                    exact h
                  · replace h := zwp_f h hx
                    refine g_aload_n (pc' := 242)  hc rfl rfl rfl rfl ?_
                    refine g_aload_n (pc' := 243)  hc rfl rfl rfl rfl ?_
                    refine z_getI (pc' := 246) (v := (I 75 35)) hc rfl rfl rfl sh_75 rfl rfl rfl ?_
                    refine z_putI (pc' := 249) (L' := [(75, some 16, fun _ => o43), (75, some 17, fun _ => o44), (75, some 20, fun _ => o46), (75, some 21, fun _ => o49), (75, some 22, fun _ => o47), (75, some 23, fun _ => o45), (75, some 24, fun _ => o50), (75, some 25, fun _ => o48), (75, some 29, fun _ => (I 75 29)), (75, some 30, fun _ => (I 75 30)), (75, some 31, fun _ => (I 75 31)), (75, some 32, fun _ => (I 75 32)), (75, some 33, fun _ => (I 75 33)), (75, some 34, fun _ => (I 75 35)), (75, some 35, fun _ => (I 75 35)), (75, some 36, fun _ => (I 75 36)), (75, some 37, fun _ => (I 75 37)), (75, some 38, fun _ => (I 75 38)), (75, some 39, fun _ => (I 75 39)), (83, none, (I 83)), (84, none, (I 84)), (85, none, (I 85)), (86, none, (I 86)), (87, none, (I 87)), (88, none, (I 88)), (89, none, (I 89)), (90, none, (I 90))]) hc rfl rfl rfl sh_75 rfl zft_12_34 rfl (fun h => Bool.noConfusion h) rfl rfl rfl ?_
                    refine g_aload_n (pc' := 250)  hc rfl rfl rfl rfl ?_
                    refine g_iconst (pc' := 251) (v := (1 : Int32)) hc rfl zki_1 rfl ?_
                    refine g_iconst (pc' := 252) (v := (5 : Int32)) hc rfl zki_5 rfl ?_
                    refine z_virt (as := [.int (1 : Int32), .int (5 : Int32)]) (a := 75) (r := []) hc rfl rfl rfl rfl sh_75 rfl zco_184 rfl rfl rfl ?_
                    refine ok_X12_expression_75 (zdp hd rfl) (zwp_mono (zwp_bind h) ?_)
                    rintro ⟨o53, o54, o55, o56, o57, o58, o59, o60, o61, o62, o63, o64, o65, o66, o67, o68, o69⟩ h
                    refine z_po (pc' := 255) (st' := []) (v := none) (L' := [(75, some 16, fun _ => o54), (75, some 17, fun _ => o55), (75, some 20, fun _ => o59), (75, some 21, fun _ => o63), (75, some 22, fun _ => o60), (75, some 23, fun _ => o58), (75, some 24, fun _ => o66), (75, some 25, fun _ => o62), (75, some 29, fun _ => (I 75 29)), (75, some 30, fun _ => (I 75 30)), (75, some 31, fun _ => (I 75 31)), (75, some 32, fun _ => (I 75 32)), (75, some 33, fun _ => (I 75 33)), (75, some 34, fun _ => (I 75 35)), (75, some 35, fun _ => o65), (75, some 36, fun _ => o56), (75, some 37, fun _ => o57), (75, some 38, fun _ => o67), (75, some 39, fun _ => o53), (83, none, (I 83)), (84, none, (I 84)), (85, none, (I 85)), (86, none, (I 86)), (87, none, (I 87)), (88, none, o61), (89, none, o68), (90, none, o64)]) (K' := [(75, some 26, fun _ => o69)]) zco_184 rfl rfl rfl rfl rfl rfl rfl rfl ?_
                    refine g_goto hc rfl ?_
                    replace h := zws h
                    exact h
                refine g_icmp_eq (pc' := 230) hc rfl rfl (fun hx => ?_) (fun hx => ?_)
                · replace h := zwp_t h hx
                  refine g_iconst (pc' := 235) (v := (0 : Int32)) hc rfl zki_0 rfl ?_
                  replace h := zws h
                  exact h
                · replace h := zwp_f h hx
                  refine g_iconst (pc' := 231) (v := (1 : Int32)) hc rfl zki_1 rfl ?_
                  refine g_goto hc rfl ?_
                  replace h := zws h
                  exact h
            · replace h := zwp_t h hx
              refine g_aload_n (pc' := 177)  hc rfl rfl rfl rfl ?_
              refine g_iconst (pc' := 178) (v := (0 : Int32)) hc rfl zki_0 rfl ?_
              refine g_aload_n (pc' := 179)  hc rfl rfl rfl rfl ?_
              refine z_getI (pc' := 182) (v := (I 75 33)) hc rfl rfl rfl sh_75 rfl rfl rfl ?_
              refine g_iconst (pc' := 183) (v := (-1 : Int32)) hc rfl zki_m1 rfl ?_
              refine zjn (G := (fun (j70 : Int32) => pm_ev C_X12_line (d + 1) (pm_call M cost zext d) cost (false, false) 108 0 0 Q 191 [some (.ref 75), some (.int r1)] [.int j70, .int (0 : Int32), .ref 75] 0 0 (zS p q I [(75, some 16, fun _ => (I 75 16)), (75, some 17, fun _ => (I 75 17)), (75, some 20, fun _ => (I 75 20)), (75, some 21, fun _ => (I 75 21)), (75, some 22, fun _ => (I 75 22)), (75, some 23, fun _ => (I 75 23)), (75, some 24, fun _ => (I 75 24)), (75, some 25, fun _ => (I 75 25)), (75, some 29, fun _ => (I 75 29)), (75, some 30, fun _ => (I 75 30)), (75, some 31, fun _ => (I 75 31)), (75, some 32, fun _ => (I 75 32)), (75, some 33, fun _ => (I 75 33)), (75, some 34, fun _ => (I 75 34)), (75, some 35, fun _ => (I 75 35)), (75, some 36, fun _ => (I 75 36)), (75, some 37, fun _ => (I 75 37)), (75, some 38, fun _ => (I 75 38)), (75, some 39, fun _ => (I 75 39)), (83, none, (I 83)), (84, none, (I 84)), (85, none, (I 85)), (86, none, (I 86)), (87, none, (I 87)), (88, none, (I 88)), (89, none, (I 89)), (90, none, (I 90))] J [(75, some 26, fun _ => (J 75 26))]))) (zwp_bind h) ?_ (fun h => ?_)
              · rintro j70 h
                refine z_virt (as := [.int (0 : Int32), .int j70]) (a := 75) (r := []) hc rfl rfl rfl rfl sh_75 rfl zco_185 rfl rfl rfl ?_
                refine ok_X12_begins_75 (zdp hd rfl) (zwp_mono (zwp_bind h) ?_)
                rintro ⟨r80, o71, o72, o73, o74, o75, o76, o77, o78, o79⟩ h
                refine z_po (pc' := 194) (st' := [.int r80]) (v := (some (.int r80))) (L' := [(75, some 16, fun _ => o71), (75, some 17, fun _ => o72), (75, some 20, fun _ => o74), (75, some 21, fun _ => o77), (75, some 22, fun _ => o75), (75, some 23, fun _ => o73), (75, some 24, fun _ => o78), (75, some 25, fun _ => o76), (75, some 29, fun _ => (I 75 29)), (75, some 30, fun _ => (I 75 30)), (75, some 31, fun _ => (I 75 31)), (75, some 32, fun _ => (I 75 32)), (75, some 33, fun _ => (I 75 33)), (75, some 34, fun _ => (I 75 34)), (75, some 35, fun _ => (I 75 35)), (75, some 36, fun _ => (I 75 36)), (75, some 37, fun _ => (I 75 37)), (75, some 38, fun _ => (I 75 38)), (75, some 39, fun _ => (I 75 39)), (83, none, (I 83)), (84, none, (I 84)), (85, none, (I 85)), (86, none, (I 86)), (87, none, (I 87)), (88, none, (I 88)), (89, none, (I 89)), (90, none, (I 90))]) (K' := [(75, some 26, fun _ => o79)]) zco_185 rfl rfl rfl rfl rfl rfl rfl rfl ?_
                refine g_if_eq (pc' := 197) hc rfl rfl (fun hx => ?_) (fun hx => ?_)
                · replace h := zwp_t h hx
                  replace h := zws h
                  exact h
                · replace h := zwp_f h hx
                  refine g_aload_n (pc' := 198)  hc rfl rfl rfl rfl ?_
                  refine g_aload_n (pc' := 199)  hc rfl rfl rfl rfl ?_
                  refine z_getI (pc' := 202) (v := (I 75 35)) hc rfl rfl rfl sh_75 rfl rfl rfl ?_
                  refine z_putI (pc' := 205) (L' := [(75, some 16, fun _ => o71), (75, some 17, fun _ => o72), (75, some 20, fun _ => o74), (75, some 21, fun _ => o77), (75, some 22, fun _ => o75), (75, some 23, fun _ => o73), (75, some 24, fun _ => o78), (75, some 25, fun _ => o76), (75, some 29, fun _ => (I 75 29)), (75, some 30, fun _ => (I 75 30)), (75, some 31, fun _ => (I 75 31)), (75, some 32, fun _ => (I 75 32)), (75, some 33, fun _ => (I 75 35)), (75, some 34, fun _ => (I 75 34)), (75, some 35, fun _ => (I 75 35)), (75, some 36, fun _ => (I 75 36)), (75, some 37, fun _ => (I 75 37)), (75, some 38, fun _ => (I 75 38)), (75, some 39, fun _ => (I 75 39)), (83, none, (I 83)), (84, none, (I 84)), (85, none, (I 85)), (86, none, (I 86)), (87, none, (I 87)), (88, none, (I 88)), (89, none, (I 89)), (90, none, (I 90))]) hc rfl rfl rfl sh_75 rfl zft_12_33 rfl (fun h => Bool.noConfusion h) rfl rfl rfl ?_
                  refine g_aload_n (pc' := 206)  hc rfl rfl rfl rfl ?_
                  refine g_iconst (pc' := 207) (v := (0 : Int32)) hc rfl zki_0 rfl ?_
                  refine g_iconst (pc' := 208) (v := (4 : Int32)) hc rfl zki_4 rfl ?_
                  refine z_virt (as := [.int (0 : Int32), .int (4 : Int32)]) (a := 75) (r := []) hc rfl rfl rfl rfl sh_75 rfl zco_184 rfl rfl rfl ?_
                  refine ok_X12_expression_75 (zdp hd rfl) (zwp_mono (zwp_bind h) ?_)
                  rintro ⟨o81, o82, o83, o84, o85, o86, o87, o88, o89, o90, o91, o92, o93, o94, o95, o96, o97⟩ h
                  refine z_po (pc' := 211) (st' := []) (v := none) (L' := [(75, some 16, fun _ => o82), (75, some 17, fun _ => o83), (75, some 20, fun _ => o87), (75, some 21, fun _ => o91), (75, some 22, fun _ => o88), (75, some 23, fun _ => o86), (75, some 24, fun _ => o94), (75, some 25, fun _ => o90), (75, some 29, fun _ => (I 75 29)), (75, some 30, fun _ => (I 75 30)), (75, some 31, fun _ => (I 75 31)), (75, some 32, fun _ => (I 75 32)), (75, some 33, fun _ => (I 75 35)), (75, some 34, fun _ => (I 75 34)), (75, some 35, fun _ => o93), (75, some 36, fun _ => o84), (75, some 37, fun _ => o85), (75, some 38, fun _ => o95), (75, some 39, fun _ => o81), (83, none, (I 83)), (84, none, (I 84)), (85, none, (I 85)), (86, none, (I 86)), (87, none, (I 87)), (88, none, o89), (89, none, o96), (90, none, o92)]) (K' := [(75, some 26, fun _ => o97)]) zco_184 rfl rfl rfl rfl rfl rfl rfl rfl ?_
                  refine g_goto hc rfl ?_
                  replace h := zws h
                  exact h
              refine g_icmp_eq (pc' := 186) hc rfl rfl (fun hx => ?_) (fun hx => ?_)
              · replace h := zwp_t h hx
                refine g_iconst (pc' := 191) (v := (0 : Int32)) hc rfl zki_0 rfl ?_
                replace h := zws h
                exact h
              · replace h := zwp_f h hx
                refine g_iconst (pc' := 187) (v := (1 : Int32)) hc rfl zki_1 rfl ?_
                refine g_goto hc rfl ?_
                replace h := zws h
                exact h
          · replace h := zwp_t h hx
            refine g_aload_n (pc' := 136)  hc rfl rfl rfl rfl ?_
            refine g_iconst (pc' := 137) (v := (0 : Int32)) hc rfl zki_0 rfl ?_
            refine g_aload_n (pc' := 138)  hc rfl rfl rfl rfl ?_
            refine z_getI (pc' := 141) (v := (I 75 32)) hc rfl rfl rfl sh_75 rfl rfl rfl ?_
            refine g_iconst (pc' := 142) (v := (-1 : Int32)) hc rfl zki_m1 rfl ?_
            refine zjn (G := (fun (j98 : Int32) => pm_ev C_X12_line (d + 1) (pm_call M cost zext d) cost (false, false) 108 0 0 Q 150 [some (.ref 75), some (.int r1)] [.int j98, .int (0 : Int32), .ref 75] 0 0 (zS p q I [(75, some 16, fun _ => (I 75 16)), (75, some 17, fun _ => (I 75 17)), (75, some 20, fun _ => (I 75 20)), (75, some 21, fun _ => (I 75 21)), (75, some 22, fun _ => (I 75 22)), (75, some 23, fun _ => (I 75 23)), (75, some 24, fun _ => (I 75 24)), (75, some 25, fun _ => (I 75 25)), (75, some 29, fun _ => (I 75 29)), (75, some 30, fun _ => (I 75 30)), (75, some 31, fun _ => (I 75 31)), (75, some 32, fun _ => (I 75 32)), (75, some 33, fun _ => (I 75 33)), (75, some 34, fun _ => (I 75 34)), (75, some 35, fun _ => (I 75 35)), (75, some 36, fun _ => (I 75 36)), (75, some 37, fun _ => (I 75 37)), (75, some 38, fun _ => (I 75 38)), (75, some 39, fun _ => (I 75 39)), (83, none, (I 83)), (84, none, (I 84)), (85, none, (I 85)), (86, none, (I 86)), (87, none, (I 87)), (88, none, (I 88)), (89, none, (I 89)), (90, none, (I 90))] J [(75, some 26, fun _ => (J 75 26))]))) (zwp_bind h) ?_ (fun h => ?_)
            · rintro j98 h
              refine z_virt (as := [.int (0 : Int32), .int j98]) (a := 75) (r := []) hc rfl rfl rfl rfl sh_75 rfl zco_185 rfl rfl rfl ?_
              refine ok_X12_begins_75 (zdp hd rfl) (zwp_mono (zwp_bind h) ?_)
              rintro ⟨r108, o99, o100, o101, o102, o103, o104, o105, o106, o107⟩ h
              refine z_po (pc' := 153) (st' := [.int r108]) (v := (some (.int r108))) (L' := [(75, some 16, fun _ => o99), (75, some 17, fun _ => o100), (75, some 20, fun _ => o102), (75, some 21, fun _ => o105), (75, some 22, fun _ => o103), (75, some 23, fun _ => o101), (75, some 24, fun _ => o106), (75, some 25, fun _ => o104), (75, some 29, fun _ => (I 75 29)), (75, some 30, fun _ => (I 75 30)), (75, some 31, fun _ => (I 75 31)), (75, some 32, fun _ => (I 75 32)), (75, some 33, fun _ => (I 75 33)), (75, some 34, fun _ => (I 75 34)), (75, some 35, fun _ => (I 75 35)), (75, some 36, fun _ => (I 75 36)), (75, some 37, fun _ => (I 75 37)), (75, some 38, fun _ => (I 75 38)), (75, some 39, fun _ => (I 75 39)), (83, none, (I 83)), (84, none, (I 84)), (85, none, (I 85)), (86, none, (I 86)), (87, none, (I 87)), (88, none, (I 88)), (89, none, (I 89)), (90, none, (I 90))]) (K' := [(75, some 26, fun _ => o107)]) zco_185 rfl rfl rfl rfl rfl rfl rfl rfl ?_
              refine g_if_eq (pc' := 156) hc rfl rfl (fun hx => ?_) (fun hx => ?_)
              · replace h := zwp_t h hx
                replace h := zws h
                exact h
              · replace h := zwp_f h hx
                refine g_aload_n (pc' := 157)  hc rfl rfl rfl rfl ?_
                refine g_aload_n (pc' := 158)  hc rfl rfl rfl rfl ?_
                refine g_iconst (pc' := 159) (v := (0 : Int32)) hc rfl zki_0 rfl ?_
                refine g_bipush (pc' := 161) (v := (9 : Int32)) hc rfl zkb_9 rfl ?_
                refine z_virt (as := [.int (0 : Int32), .int (9 : Int32)]) (a := 75) (r := [.ref 75]) hc rfl rfl rfl rfl sh_75 rfl zco_172 rfl rfl rfl ?_
                refine ok_X12_number_75 (zdp hd rfl) (zwp_mono (zwp_bind h) ?_)
                rintro ⟨r118, o109, o110, o111, o112, o113, o114, o115, o116, o117⟩ h
                refine z_po (pc' := 164) (st' := [.int r118, .ref 75]) (v := (some (.int r118))) (L' := [(75, some 16, fun _ => o109), (75, some 17, fun _ => o110), (75, some 20, fun _ => o112), (75, some 21, fun _ => o115), (75, some 22, fun _ => o113), (75, some 23, fun _ => o111), (75, some 24, fun _ => o116), (75, some 25, fun _ => o114), (75, some 29, fun _ => (I 75 29)), (75, some 30, fun _ => (I 75 30)), (75, some 31, fun _ => (I 75 31)), (75, some 32, fun _ => (I 75 32)), (75, some 33, fun _ => (I 75 33)), (75, some 34, fun _ => (I 75 34)), (75, some 35, fun _ => (I 75 35)), (75, some 36, fun _ => (I 75 36)), (75, some 37, fun _ => (I 75 37)), (75, some 38, fun _ => (I 75 38)), (75, some 39, fun _ => (I 75 39)), (83, none, (I 83)), (84, none, (I 84)), (85, none, (I 85)), (86, none, (I 86)), (87, none, (I 87)), (88, none, (I 88)), (89, none, (I 89)), (90, none, (I 90))]) (K' := [(75, some 26, fun _ => o117)]) zco_172 rfl rfl rfl rfl rfl rfl rfl rfl ?_
                refine z_putI (pc' := 167) (L' := [(75, some 16, fun _ => o109), (75, some 17, fun _ => o110), (75, some 20, fun _ => o112), (75, some 21, fun _ => o115), (75, some 22, fun _ => o113), (75, some 23, fun _ => o111), (75, some 24, fun _ => o116), (75, some 25, fun _ => o114), (75, some 29, fun _ => (I 75 29)), (75, some 30, fun _ => (I 75 30)), (75, some 31, fun _ => (I 75 31)), (75, some 32, fun _ => r118), (75, some 33, fun _ => (I 75 33)), (75, some 34, fun _ => (I 75 34)), (75, some 35, fun _ => (I 75 35)), (75, some 36, fun _ => (I 75 36)), (75, some 37, fun _ => (I 75 37)), (75, some 38, fun _ => (I 75 38)), (75, some 39, fun _ => (I 75 39)), (83, none, (I 83)), (84, none, (I 84)), (85, none, (I 85)), (86, none, (I 86)), (87, none, (I 87)), (88, none, (I 88)), (89, none, (I 89)), (90, none, (I 90))]) hc rfl rfl rfl sh_75 rfl zft_12_32 rfl (fun h => Bool.noConfusion h) rfl rfl rfl ?_
                refine g_goto hc rfl ?_
                replace h := zws h
                exact h
            refine g_icmp_eq (pc' := 145) hc rfl rfl (fun hx => ?_) (fun hx => ?_)
            · replace h := zwp_t h hx
              refine g_iconst (pc' := 150) (v := (0 : Int32)) hc rfl zki_0 rfl ?_
              replace h := zws h
              exact h
            · replace h := zwp_f h hx
              refine g_iconst (pc' := 146) (v := (1 : Int32)) hc rfl zki_1 rfl ?_
              refine g_goto hc rfl ?_
              replace h := zws h
              exact h
        · replace h := zwp_t h hx
          refine g_aload_n (pc' := 103)  hc rfl rfl rfl rfl ?_
          refine g_iconst (pc' := 104) (v := (0 : Int32)) hc rfl zki_0 rfl ?_
          refine g_aload_n (pc' := 105)  hc rfl rfl rfl rfl ?_
          refine z_getI (pc' := 108) (v := (I 75 31)) hc rfl rfl rfl sh_75 rfl rfl rfl ?_
          refine zjn (G := (fun (j119 : Int32) => pm_ev C_X12_line (d + 1) (pm_call M cost zext d) cost (false, false) 108 0 0 Q 116 [some (.ref 75), some (.int r1)] [.int j119, .int (0 : Int32), .ref 75] 0 0 (zS p q I [(75, some 16, fun _ => (I 75 16)), (75, some 17, fun _ => (I 75 17)), (75, some 20, fun _ => (I 75 20)), (75, some 21, fun _ => (I 75 21)), (75, some 22, fun _ => (I 75 22)), (75, some 23, fun _ => (I 75 23)), (75, some 24, fun _ => (I 75 24)), (75, some 25, fun _ => (I 75 25)), (75, some 29, fun _ => (I 75 29)), (75, some 30, fun _ => (I 75 30)), (75, some 31, fun _ => (I 75 31)), (75, some 32, fun _ => (I 75 32)), (75, some 33, fun _ => (I 75 33)), (75, some 34, fun _ => (I 75 34)), (75, some 35, fun _ => (I 75 35)), (75, some 36, fun _ => (I 75 36)), (75, some 37, fun _ => (I 75 37)), (75, some 38, fun _ => (I 75 38)), (75, some 39, fun _ => (I 75 39)), (83, none, (I 83)), (84, none, (I 84)), (85, none, (I 85)), (86, none, (I 86)), (87, none, (I 87)), (88, none, (I 88)), (89, none, (I 89)), (90, none, (I 90))] J [(75, some 26, fun _ => (J 75 26))]))) (zwp_bind h) ?_ (fun h => ?_)
          · rintro j119 h
            refine z_virt (as := [.int (0 : Int32), .int j119]) (a := 75) (r := []) hc rfl rfl rfl rfl sh_75 rfl zco_185 rfl rfl rfl ?_
            refine ok_X12_begins_75 (zdp hd rfl) (zwp_mono (zwp_bind h) ?_)
            rintro ⟨r129, o120, o121, o122, o123, o124, o125, o126, o127, o128⟩ h
            refine z_po (pc' := 119) (st' := [.int r129]) (v := (some (.int r129))) (L' := [(75, some 16, fun _ => o120), (75, some 17, fun _ => o121), (75, some 20, fun _ => o123), (75, some 21, fun _ => o126), (75, some 22, fun _ => o124), (75, some 23, fun _ => o122), (75, some 24, fun _ => o127), (75, some 25, fun _ => o125), (75, some 29, fun _ => (I 75 29)), (75, some 30, fun _ => (I 75 30)), (75, some 31, fun _ => (I 75 31)), (75, some 32, fun _ => (I 75 32)), (75, some 33, fun _ => (I 75 33)), (75, some 34, fun _ => (I 75 34)), (75, some 35, fun _ => (I 75 35)), (75, some 36, fun _ => (I 75 36)), (75, some 37, fun _ => (I 75 37)), (75, some 38, fun _ => (I 75 38)), (75, some 39, fun _ => (I 75 39)), (83, none, (I 83)), (84, none, (I 84)), (85, none, (I 85)), (86, none, (I 86)), (87, none, (I 87)), (88, none, (I 88)), (89, none, (I 89)), (90, none, (I 90))]) (K' := [(75, some 26, fun _ => o128)]) zco_185 rfl rfl rfl rfl rfl rfl rfl rfl ?_
            refine g_if_eq (pc' := 122) hc rfl rfl (fun hx => ?_) (fun hx => ?_)
            · replace h := zwp_t h hx
              replace h := zws h
              exact h
            · replace h := zwp_f h hx
              refine g_aload_n (pc' := 123)  hc rfl rfl rfl rfl ?_
              refine z_virt (as := []) (a := 75) (r := []) hc rfl rfl rfl rfl sh_75 rfl zco_189 rfl rfl rfl ?_
              refine ok_X12_readsLight_75 (zdp hd rfl) (zwp_mono (zwp_bind h) ?_)
              rintro ⟨o130, o131, o132, o133, o134, o135, o136, o137, o138, o139, o140⟩ h
              refine z_po (pc' := 126) (st' := []) (v := none) (L' := [(75, some 16, fun _ => o130), (75, some 17, fun _ => o131), (75, some 20, fun _ => o135), (75, some 21, fun _ => o138), (75, some 22, fun _ => o136), (75, some 23, fun _ => o132), (75, some 24, fun _ => o139), (75, some 25, fun _ => o137), (75, some 29, fun _ => (I 75 29)), (75, some 30, fun _ => (I 75 30)), (75, some 31, fun _ => o134), (75, some 32, fun _ => (I 75 32)), (75, some 33, fun _ => (I 75 33)), (75, some 34, fun _ => (I 75 34)), (75, some 35, fun _ => (I 75 35)), (75, some 36, fun _ => (I 75 36)), (75, some 37, fun _ => (I 75 37)), (75, some 38, fun _ => (I 75 38)), (75, some 39, fun _ => (I 75 39)), (83, none, (I 83)), (84, none, (I 84)), (85, none, (I 85)), (86, none, o133), (87, none, (I 87)), (88, none, (I 88)), (89, none, (I 89)), (90, none, (I 90))]) (K' := [(75, some 26, fun _ => o140)]) zco_189 rfl rfl rfl rfl rfl rfl rfl rfl ?_
              refine g_goto hc rfl ?_
              replace h := zws h
              exact h
          refine g_if_le (pc' := 111) hc rfl rfl (fun hx => ?_) (fun hx => ?_)
          · replace h := zwp_t h hx
            refine g_iconst (pc' := 116) (v := (0 : Int32)) hc rfl zki_0 rfl ?_
            replace h := zws h
            exact h
          · replace h := zwp_f h hx
            refine g_iconst (pc' := 112) (v := (1 : Int32)) hc rfl zki_1 rfl ?_
            refine g_goto hc rfl ?_
            replace h := zws h
            exact h
      · replace h := zwp_t h hx
        refine g_aload_n (pc' := 69)  hc rfl rfl rfl rfl ?_
        refine g_aload_n (pc' := 70)  hc rfl rfl rfl rfl ?_
        refine z_getI (pc' := 73) (v := (I 75 30)) hc rfl rfl rfl sh_75 rfl rfl rfl ?_
        refine g_bipush (pc' := 75) (v := (8 : Int32)) hc rfl zkb_8 rfl ?_
        refine zjn (G := (fun (j141 : Int32) => pm_ev C_X12_line (d + 1) (pm_call M cost zext d) cost (false, false) 108 0 0 Q 83 [some (.ref 75), some (.int r1)] [.int j141, .ref 75] 0 0 (zS p q I [(75, some 16, fun _ => (I 75 16)), (75, some 17, fun _ => (I 75 17)), (75, some 20, fun _ => (I 75 20)), (75, some 21, fun _ => (I 75 21)), (75, some 22, fun _ => (I 75 22)), (75, some 23, fun _ => (I 75 23)), (75, some 24, fun _ => (I 75 24)), (75, some 25, fun _ => (I 75 25)), (75, some 29, fun _ => (I 75 29)), (75, some 30, fun _ => (I 75 30)), (75, some 31, fun _ => (I 75 31)), (75, some 32, fun _ => (I 75 32)), (75, some 33, fun _ => (I 75 33)), (75, some 34, fun _ => (I 75 34)), (75, some 35, fun _ => (I 75 35)), (75, some 36, fun _ => (I 75 36)), (75, some 37, fun _ => (I 75 37)), (75, some 38, fun _ => (I 75 38)), (75, some 39, fun _ => (I 75 39)), (83, none, (I 83)), (84, none, (I 84)), (85, none, (I 85)), (86, none, (I 86)), (87, none, (I 87)), (88, none, (I 88)), (89, none, (I 89)), (90, none, (I 90))] J [(75, some 26, fun _ => (J 75 26))]))) (zwp_bind h) ?_ (fun h => ?_)
        · rintro j141 h
          refine g_iconst (pc' := 84) (v := (0 : Int32)) hc rfl zki_0 rfl ?_
          refine z_virt (as := [.int j141, .int (0 : Int32)]) (a := 75) (r := []) hc rfl rfl rfl rfl sh_75 rfl zco_185 rfl rfl rfl ?_
          refine ok_X12_begins_75 (zdp hd rfl) (zwp_mono (zwp_bind h) ?_)
          rintro ⟨r151, o142, o143, o144, o145, o146, o147, o148, o149, o150⟩ h
          refine z_po (pc' := 87) (st' := [.int r151]) (v := (some (.int r151))) (L' := [(75, some 16, fun _ => o142), (75, some 17, fun _ => o143), (75, some 20, fun _ => o145), (75, some 21, fun _ => o148), (75, some 22, fun _ => o146), (75, some 23, fun _ => o144), (75, some 24, fun _ => o149), (75, some 25, fun _ => o147), (75, some 29, fun _ => (I 75 29)), (75, some 30, fun _ => (I 75 30)), (75, some 31, fun _ => (I 75 31)), (75, some 32, fun _ => (I 75 32)), (75, some 33, fun _ => (I 75 33)), (75, some 34, fun _ => (I 75 34)), (75, some 35, fun _ => (I 75 35)), (75, some 36, fun _ => (I 75 36)), (75, some 37, fun _ => (I 75 37)), (75, some 38, fun _ => (I 75 38)), (75, some 39, fun _ => (I 75 39)), (83, none, (I 83)), (84, none, (I 84)), (85, none, (I 85)), (86, none, (I 86)), (87, none, (I 87)), (88, none, (I 88)), (89, none, (I 89)), (90, none, (I 90))]) (K' := [(75, some 26, fun _ => o150)]) zco_185 rfl rfl rfl rfl rfl rfl rfl rfl ?_
          refine g_if_eq (pc' := 90) hc rfl rfl (fun hx => ?_) (fun hx => ?_)
          · replace h := zwp_t h hx
            replace h := zws h
            exact h
          · replace h := zwp_f h hx
            refine g_aload_n (pc' := 91)  hc rfl rfl rfl rfl ?_
            refine z_virt (as := []) (a := 75) (r := []) hc rfl rfl rfl rfl sh_75 rfl zco_188 rfl rfl rfl ?_
            refine ok_X12_readsSeat_75 (zdp hd rfl) (zwp_mono (zwp_bind h) ?_)
            rintro ⟨o152, o153, o154, o155, o156, o157, o158, o159, o160, o161, o162⟩ h
            refine z_po (pc' := 94) (st' := []) (v := none) (L' := [(75, some 16, fun _ => o152), (75, some 17, fun _ => o153), (75, some 20, fun _ => o157), (75, some 21, fun _ => o160), (75, some 22, fun _ => o158), (75, some 23, fun _ => o154), (75, some 24, fun _ => o161), (75, some 25, fun _ => o159), (75, some 29, fun _ => (I 75 29)), (75, some 30, fun _ => o156), (75, some 31, fun _ => (I 75 31)), (75, some 32, fun _ => (I 75 32)), (75, some 33, fun _ => (I 75 33)), (75, some 34, fun _ => (I 75 34)), (75, some 35, fun _ => (I 75 35)), (75, some 36, fun _ => (I 75 36)), (75, some 37, fun _ => (I 75 37)), (75, some 38, fun _ => (I 75 38)), (75, some 39, fun _ => (I 75 39)), (83, none, (I 83)), (84, none, (I 84)), (85, none, o155), (86, none, (I 86)), (87, none, (I 87)), (88, none, (I 88)), (89, none, (I 89)), (90, none, (I 90))]) (K' := [(75, some 26, fun _ => o162)]) zco_188 rfl rfl rfl rfl rfl rfl rfl rfl ?_
            refine g_goto hc rfl ?_
            replace h := zws h
            exact h
        refine g_icmp_ne (pc' := 78) hc rfl rfl (fun hx => ?_) (fun hx => ?_)
        · replace h := zwp_f h hx
          refine g_iconst (pc' := 83) (v := (0 : Int32)) hc rfl zki_0 rfl ?_
          replace h := zws h
          exact h
        · replace h := zwp_t h hx
          refine g_iconst (pc' := 79) (v := (1 : Int32)) hc rfl zki_1 rfl ?_
          refine g_goto hc rfl ?_
          replace h := zws h
          exact h
    · replace h := zwp_t h hx
      refine g_aload_n (pc' := 34)  hc rfl rfl rfl rfl ?_
      refine g_aload_n (pc' := 35)  hc rfl rfl rfl rfl ?_
      refine z_getI (pc' := 38) (v := (I 75 29)) hc rfl rfl rfl sh_75 rfl rfl rfl ?_
      refine g_bipush (pc' := 40) (v := (8 : Int32)) hc rfl zkb_8 rfl ?_
      refine zjn (G := (fun (j163 : Int32) => pm_ev C_X12_line (d + 1) (pm_call M cost zext d) cost (false, false) 108 0 0 Q 48 [some (.ref 75), some (.int r1)] [.int j163, .ref 75] 0 0 (zS p q I [(75, some 16, fun _ => (I 75 16)), (75, some 17, fun _ => (I 75 17)), (75, some 20, fun _ => (I 75 20)), (75, some 21, fun _ => (I 75 21)), (75, some 22, fun _ => (I 75 22)), (75, some 23, fun _ => (I 75 23)), (75, some 24, fun _ => (I 75 24)), (75, some 25, fun _ => (I 75 25)), (75, some 29, fun _ => (I 75 29)), (75, some 30, fun _ => (I 75 30)), (75, some 31, fun _ => (I 75 31)), (75, some 32, fun _ => (I 75 32)), (75, some 33, fun _ => (I 75 33)), (75, some 34, fun _ => (I 75 34)), (75, some 35, fun _ => (I 75 35)), (75, some 36, fun _ => (I 75 36)), (75, some 37, fun _ => (I 75 37)), (75, some 38, fun _ => (I 75 38)), (75, some 39, fun _ => (I 75 39)), (83, none, (I 83)), (84, none, (I 84)), (85, none, (I 85)), (86, none, (I 86)), (87, none, (I 87)), (88, none, (I 88)), (89, none, (I 89)), (90, none, (I 90))] J [(75, some 26, fun _ => (J 75 26))]))) (zwp_bind h) ?_ (fun h => ?_)
      · rintro j163 h
        refine g_iconst (pc' := 49) (v := (0 : Int32)) hc rfl zki_0 rfl ?_
        refine z_virt (as := [.int j163, .int (0 : Int32)]) (a := 75) (r := []) hc rfl rfl rfl rfl sh_75 rfl zco_185 rfl rfl rfl ?_
        refine ok_X12_begins_75 (zdp hd rfl) (zwp_mono (zwp_bind h) ?_)
        rintro ⟨r173, o164, o165, o166, o167, o168, o169, o170, o171, o172⟩ h
        refine z_po (pc' := 52) (st' := [.int r173]) (v := (some (.int r173))) (L' := [(75, some 16, fun _ => o164), (75, some 17, fun _ => o165), (75, some 20, fun _ => o167), (75, some 21, fun _ => o170), (75, some 22, fun _ => o168), (75, some 23, fun _ => o166), (75, some 24, fun _ => o171), (75, some 25, fun _ => o169), (75, some 29, fun _ => (I 75 29)), (75, some 30, fun _ => (I 75 30)), (75, some 31, fun _ => (I 75 31)), (75, some 32, fun _ => (I 75 32)), (75, some 33, fun _ => (I 75 33)), (75, some 34, fun _ => (I 75 34)), (75, some 35, fun _ => (I 75 35)), (75, some 36, fun _ => (I 75 36)), (75, some 37, fun _ => (I 75 37)), (75, some 38, fun _ => (I 75 38)), (75, some 39, fun _ => (I 75 39)), (83, none, (I 83)), (84, none, (I 84)), (85, none, (I 85)), (86, none, (I 86)), (87, none, (I 87)), (88, none, (I 88)), (89, none, (I 89)), (90, none, (I 90))]) (K' := [(75, some 26, fun _ => o172)]) zco_185 rfl rfl rfl rfl rfl rfl rfl rfl ?_
        refine g_if_eq (pc' := 55) hc rfl rfl (fun hx => ?_) (fun hx => ?_)
        · replace h := zwp_t h hx
          replace h := zws h
          exact h
        · replace h := zwp_f h hx
          refine g_aload_n (pc' := 56)  hc rfl rfl rfl rfl ?_
          refine z_virt (as := []) (a := 75) (r := []) hc rfl rfl rfl rfl sh_75 rfl zco_187 rfl rfl rfl ?_
          refine ok_X12_readsFigure_75 (zdp hd rfl) (zwp_mono (zwp_bind h) ?_)
          rintro ⟨o174, o175, o176, o177, o178, o179, o180, o181, o182, o183, o184, o185, o186⟩ h
          refine z_po (pc' := 59) (st' := []) (v := none) (L' := [(75, some 16, fun _ => o174), (75, some 17, fun _ => o175), (75, some 20, fun _ => o181), (75, some 21, fun _ => o184), (75, some 22, fun _ => o182), (75, some 23, fun _ => o176), (75, some 24, fun _ => o185), (75, some 25, fun _ => o183), (75, some 29, fun _ => o177), (75, some 30, fun _ => (I 75 30)), (75, some 31, fun _ => (I 75 31)), (75, some 32, fun _ => (I 75 32)), (75, some 33, fun _ => (I 75 33)), (75, some 34, fun _ => (I 75 34)), (75, some 35, fun _ => (I 75 35)), (75, some 36, fun _ => (I 75 36)), (75, some 37, fun _ => (I 75 37)), (75, some 38, fun _ => (I 75 38)), (75, some 39, fun _ => (I 75 39)), (83, none, o179), (84, none, o180), (85, none, (I 85)), (86, none, (I 86)), (87, none, o178), (88, none, (I 88)), (89, none, (I 89)), (90, none, (I 90))]) (K' := [(75, some 26, fun _ => o186)]) zco_187 rfl rfl rfl rfl rfl rfl rfl rfl ?_
          refine g_goto hc rfl ?_
          replace h := zws h
          exact h
      refine g_icmp_ne (pc' := 43) hc rfl rfl (fun hx => ?_) (fun hx => ?_)
      · replace h := zwp_f h hx
        refine g_iconst (pc' := 48) (v := (0 : Int32)) hc rfl zki_0 rfl ?_
        replace h := zws h
        exact h
      · replace h := zwp_t h hx
        refine g_iconst (pc' := 44) (v := (1 : Int32)) hc rfl zki_1 rfl ?_
        refine g_goto hc rfl ?_
        replace h := zws h
        exact h
  · replace h := zwp_t h hx
    refine g_aload_n (pc' := 12)  hc rfl rfl rfl rfl ?_
    refine g_iconst (pc' := 13) (v := (0 : Int32)) hc rfl zki_0 rfl ?_
    refine g_iconst (pc' := 14) (v := (0 : Int32)) hc rfl zki_0 rfl ?_
    refine z_virt (as := [.int (0 : Int32), .int (0 : Int32)]) (a := 75) (r := []) hc rfl rfl rfl rfl sh_75 rfl zco_185 rfl rfl rfl ?_
    refine ok_X12_begins_75 (zdp hd rfl) (zwp_mono (zwp_bind h) ?_)
    rintro ⟨r196, o187, o188, o189, o190, o191, o192, o193, o194, o195⟩ h
    refine z_po (pc' := 17) (st' := [.int r196]) (v := (some (.int r196))) (L' := [(75, some 16, fun _ => o187), (75, some 17, fun _ => o188), (75, some 20, fun _ => o190), (75, some 21, fun _ => o193), (75, some 22, fun _ => o191), (75, some 23, fun _ => o189), (75, some 24, fun _ => o194), (75, some 25, fun _ => o192), (75, some 29, fun _ => (I 75 29)), (75, some 30, fun _ => (I 75 30)), (75, some 31, fun _ => (I 75 31)), (75, some 32, fun _ => (I 75 32)), (75, some 33, fun _ => (I 75 33)), (75, some 34, fun _ => (I 75 34)), (75, some 35, fun _ => (I 75 35)), (75, some 36, fun _ => (I 75 36)), (75, some 37, fun _ => (I 75 37)), (75, some 38, fun _ => (I 75 38)), (75, some 39, fun _ => (I 75 39)), (83, none, (I 83)), (84, none, (I 84)), (85, none, (I 85)), (86, none, (I 86)), (87, none, (I 87)), (88, none, (I 88)), (89, none, (I 89)), (90, none, (I 90))]) (K' := [(75, some 26, fun _ => o195)]) zco_185 rfl rfl rfl rfl rfl rfl rfl rfl ?_
    refine g_if_eq (pc' := 20) hc rfl rfl (fun hx => ?_) (fun hx => ?_)
    · replace h := zwp_t h hx
      replace h := zws h
      exact h
    · replace h := zwp_f h hx
      refine g_aload_n (pc' := 21)  hc rfl rfl rfl rfl ?_
      refine z_virt (as := []) (a := 75) (r := []) hc rfl rfl rfl rfl sh_75 rfl zco_186 rfl rfl rfl ?_
      refine ok_X12_readsWall_75 (zdp hd rfl) (zwp_mono (zwp_bind h) ?_)
      rintro ⟨o197, o198, o199, o200, o201, o202, o203, o204, o205, o206⟩ h
      refine z_po (pc' := 24) (st' := []) (v := none) (L' := [(75, some 16, fun _ => o197), (75, some 17, fun _ => o198), (75, some 20, fun _ => o201), (75, some 21, fun _ => o204), (75, some 22, fun _ => o202), (75, some 23, fun _ => o199), (75, some 24, fun _ => o205), (75, some 25, fun _ => o203), (75, some 29, fun _ => (I 75 29)), (75, some 30, fun _ => (I 75 30)), (75, some 31, fun _ => (I 75 31)), (75, some 32, fun _ => (I 75 32)), (75, some 33, fun _ => (I 75 33)), (75, some 34, fun _ => (I 75 34)), (75, some 35, fun _ => (I 75 35)), (75, some 36, fun _ => (I 75 36)), (75, some 37, fun _ => (I 75 37)), (75, some 38, fun _ => (I 75 38)), (75, some 39, fun _ => (I 75 39)), (83, none, (I 83)), (84, none, (I 84)), (85, none, (I 85)), (86, none, (I 86)), (87, none, o200), (88, none, (I 88)), (89, none, (I 89)), (90, none, (I 90))]) (K' := [(75, some 26, fun _ => o206)]) zco_186 rfl rfl rfl rfl rfl rfl rfl rfl ?_
      refine g_goto hc rfl ?_
      replace h := zws h
      exact h
set_option maxRecDepth 4000 in
theorem ok_X12_copies_75_83_76 {p q : Nat} {I : pI} {J : pJ} {Q : pQ} {d : Nat} (hd : 1 ≤ d) (h : zwp (f_X12_copies 8 8 (I 83) (I 76)) (fun o0 => Q (.inl none) (zS p q I [(76, none, o0)] J []))) : pm_call M cost zext d 157 [.ref 75, .ref 83, .ref 76] (pm_st 108 (shp p q) I J) Q := by
  obtain ⟨d, rfl⟩ := zd1 hd rfl
  have hc := pm_call_m (M := M) (cost := cost) zext_m d
  refine z_in (L := [(76, none, (I 76))]) (K := []) (ls := [some (.ref 75), some (.ref 83), some (.ref 76), none]) zmt_157 zco_157 rfl rfl (zid_a zid_n) zid_n ?_
  delta f_X12_copies at h
  refine g_iconst (pc' := 1) (v := (0 : Int32)) hc rfl zki_0 rfl ?_
  refine g_istore_n (pc' := 2) (ls1 := [some (.ref 75), some (.ref 83), some (.ref 76), some (.int (0 : Int32))]) hc rfl (zlt rfl) rfl rfl ?_
  refine zjn (G := (fun (y4 : (Nat → Int32)) => ∀ z3 : Option Value, znl z3 = true → pm_ev C_X12_copies (d + 1) (pm_call M cost zext d) cost (false, false) 108 0 0 Q 20 [some (.ref 75), some (.ref 83), some (.ref 76), z3] [] 0 0 (zS p q I [(76, none, y4)] J []))) (zwp_bind h) ?_ (fun h => ?_)
  · rintro y4 h z3 hz3
    replace h := zws h
    exact g_return hc rfl rfl (fun _ => ⟨rfl, rfl⟩) h
  refine zitr_ev (G := (fun (g : Int32 × (Nat → Int32)) => match g with | (x1, x2) => pm_ev C_X12_copies (d + 1) (pm_call M cost zext d) cost (false, false) 108 0 0 Q 2 [some (.ref 75), some (.ref 83), some (.ref 76), some (.int x1)] [] 0 0 (zS p q I [(76, none, x2)] J []))) ?_ zFU ((0 : Int32), (I 76)) h
  rintro ⟨x1, x2⟩ h
  refine g_iload_n (pc' := 3)  hc rfl rfl rfl ?_
  refine g_aload_n (pc' := 4)  hc rfl rfl rfl rfl ?_
  refine z_alen (pc' := 5) (v := (Int32.ofNat 8)) hc rfl rfl sh_83 ⟨by decide, by decide⟩ rfl rfl ?_
  refine g_icmp_ge (pc' := 8) hc rfl rfl (fun hx => ?_) (fun hx => ?_)
  · replace h := zwp_t h hx
    replace h := zwp_r h
    exact h (some (.int x1)) rfl
  · replace h := zwp_f h hx
    refine g_aload_n (pc' := 9)  hc rfl rfl rfl rfl ?_
    refine g_iload_n (pc' := 10)  hc rfl rfl rfl ?_
    refine g_aload_n (pc' := 11)  hc rfl rfl rfl rfl ?_
    refine g_iload_n (pc' := 12)  hc rfl rfl rfl ?_
    have hb := (zwp_bnd h).1
    replace h := (zwp_bnd h).2
    refine z_iaload (pc' := 13) (v := (((I 83)) x1.toNatClampNeg)) hc rfl rfl sh_83 hb rfl rfl ?_
    have hb := (zwp_bnd h).1
    replace h := (zwp_bnd h).2
    refine z_iastore (pc' := 14) (g := x2) (L' := [(76, none, (upd x2 x1.toNatClampNeg (((I 83)) x1.toNatClampNeg)))]) hc rfl rfl sh_76 hb rfl rfl rfl rfl ?_
    refine g_iinc (pc' := 17) (ls1 := [some (.ref 75), some (.ref 83), some (.ref 76), some (.int (x1 + (1 : Int32)))]) hc rfl rfl zki_1 (zlt rfl) rfl rfl ?_
    refine g_goto hc rfl ?_
    replace h := zwp_l h
    exact h
set_option maxRecDepth 4000 in
theorem ok_X12_copies_75_84_77 {p q : Nat} {I : pI} {J : pJ} {Q : pQ} {d : Nat} (hd : 1 ≤ d) (h : zwp (f_X12_copies 64 64 (I 84) (I 77)) (fun o0 => Q (.inl none) (zS p q I [(77, none, o0)] J []))) : pm_call M cost zext d 157 [.ref 75, .ref 84, .ref 77] (pm_st 108 (shp p q) I J) Q := by
  obtain ⟨d, rfl⟩ := zd1 hd rfl
  have hc := pm_call_m (M := M) (cost := cost) zext_m d
  refine z_in (L := [(77, none, (I 77))]) (K := []) (ls := [some (.ref 75), some (.ref 84), some (.ref 77), none]) zmt_157 zco_157 rfl rfl (zid_a zid_n) zid_n ?_
  delta f_X12_copies at h
  refine g_iconst (pc' := 1) (v := (0 : Int32)) hc rfl zki_0 rfl ?_
  refine g_istore_n (pc' := 2) (ls1 := [some (.ref 75), some (.ref 84), some (.ref 77), some (.int (0 : Int32))]) hc rfl (zlt rfl) rfl rfl ?_
  refine zjn (G := (fun (y4 : (Nat → Int32)) => ∀ z3 : Option Value, znl z3 = true → pm_ev C_X12_copies (d + 1) (pm_call M cost zext d) cost (false, false) 108 0 0 Q 20 [some (.ref 75), some (.ref 84), some (.ref 77), z3] [] 0 0 (zS p q I [(77, none, y4)] J []))) (zwp_bind h) ?_ (fun h => ?_)
  · rintro y4 h z3 hz3
    replace h := zws h
    exact g_return hc rfl rfl (fun _ => ⟨rfl, rfl⟩) h
  refine zitr_ev (G := (fun (g : Int32 × (Nat → Int32)) => match g with | (x1, x2) => pm_ev C_X12_copies (d + 1) (pm_call M cost zext d) cost (false, false) 108 0 0 Q 2 [some (.ref 75), some (.ref 84), some (.ref 77), some (.int x1)] [] 0 0 (zS p q I [(77, none, x2)] J []))) ?_ zFU ((0 : Int32), (I 77)) h
  rintro ⟨x1, x2⟩ h
  refine g_iload_n (pc' := 3)  hc rfl rfl rfl ?_
  refine g_aload_n (pc' := 4)  hc rfl rfl rfl rfl ?_
  refine z_alen (pc' := 5) (v := (Int32.ofNat 64)) hc rfl rfl sh_84 ⟨by decide, by decide⟩ rfl rfl ?_
  refine g_icmp_ge (pc' := 8) hc rfl rfl (fun hx => ?_) (fun hx => ?_)
  · replace h := zwp_t h hx
    replace h := zwp_r h
    exact h (some (.int x1)) rfl
  · replace h := zwp_f h hx
    refine g_aload_n (pc' := 9)  hc rfl rfl rfl rfl ?_
    refine g_iload_n (pc' := 10)  hc rfl rfl rfl ?_
    refine g_aload_n (pc' := 11)  hc rfl rfl rfl rfl ?_
    refine g_iload_n (pc' := 12)  hc rfl rfl rfl ?_
    have hb := (zwp_bnd h).1
    replace h := (zwp_bnd h).2
    refine z_iaload (pc' := 13) (v := (((I 84)) x1.toNatClampNeg)) hc rfl rfl sh_84 hb rfl rfl ?_
    have hb := (zwp_bnd h).1
    replace h := (zwp_bnd h).2
    refine z_iastore (pc' := 14) (g := x2) (L' := [(77, none, (upd x2 x1.toNatClampNeg (((I 84)) x1.toNatClampNeg)))]) hc rfl rfl sh_77 hb rfl rfl rfl rfl ?_
    refine g_iinc (pc' := 17) (ls1 := [some (.ref 75), some (.ref 84), some (.ref 77), some (.int (x1 + (1 : Int32)))]) hc rfl rfl zki_1 (zlt rfl) rfl rfl ?_
    refine g_goto hc rfl ?_
    replace h := zwp_l h
    exact h
set_option maxRecDepth 4000 in
theorem ok_X12_copies_75_85_78 {p q : Nat} {I : pI} {J : pJ} {Q : pQ} {d : Nat} (hd : 1 ≤ d) (h : zwp (f_X12_copies 8 8 (I 85) (I 78)) (fun o0 => Q (.inl none) (zS p q I [(78, none, o0)] J []))) : pm_call M cost zext d 157 [.ref 75, .ref 85, .ref 78] (pm_st 108 (shp p q) I J) Q := by
  obtain ⟨d, rfl⟩ := zd1 hd rfl
  have hc := pm_call_m (M := M) (cost := cost) zext_m d
  refine z_in (L := [(78, none, (I 78))]) (K := []) (ls := [some (.ref 75), some (.ref 85), some (.ref 78), none]) zmt_157 zco_157 rfl rfl (zid_a zid_n) zid_n ?_
  delta f_X12_copies at h
  refine g_iconst (pc' := 1) (v := (0 : Int32)) hc rfl zki_0 rfl ?_
  refine g_istore_n (pc' := 2) (ls1 := [some (.ref 75), some (.ref 85), some (.ref 78), some (.int (0 : Int32))]) hc rfl (zlt rfl) rfl rfl ?_
  refine zjn (G := (fun (y4 : (Nat → Int32)) => ∀ z3 : Option Value, znl z3 = true → pm_ev C_X12_copies (d + 1) (pm_call M cost zext d) cost (false, false) 108 0 0 Q 20 [some (.ref 75), some (.ref 85), some (.ref 78), z3] [] 0 0 (zS p q I [(78, none, y4)] J []))) (zwp_bind h) ?_ (fun h => ?_)
  · rintro y4 h z3 hz3
    replace h := zws h
    exact g_return hc rfl rfl (fun _ => ⟨rfl, rfl⟩) h
  refine zitr_ev (G := (fun (g : Int32 × (Nat → Int32)) => match g with | (x1, x2) => pm_ev C_X12_copies (d + 1) (pm_call M cost zext d) cost (false, false) 108 0 0 Q 2 [some (.ref 75), some (.ref 85), some (.ref 78), some (.int x1)] [] 0 0 (zS p q I [(78, none, x2)] J []))) ?_ zFU ((0 : Int32), (I 78)) h
  rintro ⟨x1, x2⟩ h
  refine g_iload_n (pc' := 3)  hc rfl rfl rfl ?_
  refine g_aload_n (pc' := 4)  hc rfl rfl rfl rfl ?_
  refine z_alen (pc' := 5) (v := (Int32.ofNat 8)) hc rfl rfl sh_85 ⟨by decide, by decide⟩ rfl rfl ?_
  refine g_icmp_ge (pc' := 8) hc rfl rfl (fun hx => ?_) (fun hx => ?_)
  · replace h := zwp_t h hx
    replace h := zwp_r h
    exact h (some (.int x1)) rfl
  · replace h := zwp_f h hx
    refine g_aload_n (pc' := 9)  hc rfl rfl rfl rfl ?_
    refine g_iload_n (pc' := 10)  hc rfl rfl rfl ?_
    refine g_aload_n (pc' := 11)  hc rfl rfl rfl rfl ?_
    refine g_iload_n (pc' := 12)  hc rfl rfl rfl ?_
    have hb := (zwp_bnd h).1
    replace h := (zwp_bnd h).2
    refine z_iaload (pc' := 13) (v := (((I 85)) x1.toNatClampNeg)) hc rfl rfl sh_85 hb rfl rfl ?_
    have hb := (zwp_bnd h).1
    replace h := (zwp_bnd h).2
    refine z_iastore (pc' := 14) (g := x2) (L' := [(78, none, (upd x2 x1.toNatClampNeg (((I 85)) x1.toNatClampNeg)))]) hc rfl rfl sh_78 hb rfl rfl rfl rfl ?_
    refine g_iinc (pc' := 17) (ls1 := [some (.ref 75), some (.ref 85), some (.ref 78), some (.int (x1 + (1 : Int32)))]) hc rfl rfl zki_1 (zlt rfl) rfl rfl ?_
    refine g_goto hc rfl ?_
    replace h := zwp_l h
    exact h
set_option maxRecDepth 4000 in
theorem ok_X12_copies_75_86_79 {p q : Nat} {I : pI} {J : pJ} {Q : pQ} {d : Nat} (hd : 1 ≤ d) (h : zwp (f_X12_copies 8 8 (I 86) (I 79)) (fun o0 => Q (.inl none) (zS p q I [(79, none, o0)] J []))) : pm_call M cost zext d 157 [.ref 75, .ref 86, .ref 79] (pm_st 108 (shp p q) I J) Q := by
  obtain ⟨d, rfl⟩ := zd1 hd rfl
  have hc := pm_call_m (M := M) (cost := cost) zext_m d
  refine z_in (L := [(79, none, (I 79))]) (K := []) (ls := [some (.ref 75), some (.ref 86), some (.ref 79), none]) zmt_157 zco_157 rfl rfl (zid_a zid_n) zid_n ?_
  delta f_X12_copies at h
  refine g_iconst (pc' := 1) (v := (0 : Int32)) hc rfl zki_0 rfl ?_
  refine g_istore_n (pc' := 2) (ls1 := [some (.ref 75), some (.ref 86), some (.ref 79), some (.int (0 : Int32))]) hc rfl (zlt rfl) rfl rfl ?_
  refine zjn (G := (fun (y4 : (Nat → Int32)) => ∀ z3 : Option Value, znl z3 = true → pm_ev C_X12_copies (d + 1) (pm_call M cost zext d) cost (false, false) 108 0 0 Q 20 [some (.ref 75), some (.ref 86), some (.ref 79), z3] [] 0 0 (zS p q I [(79, none, y4)] J []))) (zwp_bind h) ?_ (fun h => ?_)
  · rintro y4 h z3 hz3
    replace h := zws h
    exact g_return hc rfl rfl (fun _ => ⟨rfl, rfl⟩) h
  refine zitr_ev (G := (fun (g : Int32 × (Nat → Int32)) => match g with | (x1, x2) => pm_ev C_X12_copies (d + 1) (pm_call M cost zext d) cost (false, false) 108 0 0 Q 2 [some (.ref 75), some (.ref 86), some (.ref 79), some (.int x1)] [] 0 0 (zS p q I [(79, none, x2)] J []))) ?_ zFU ((0 : Int32), (I 79)) h
  rintro ⟨x1, x2⟩ h
  refine g_iload_n (pc' := 3)  hc rfl rfl rfl ?_
  refine g_aload_n (pc' := 4)  hc rfl rfl rfl rfl ?_
  refine z_alen (pc' := 5) (v := (Int32.ofNat 8)) hc rfl rfl sh_86 ⟨by decide, by decide⟩ rfl rfl ?_
  refine g_icmp_ge (pc' := 8) hc rfl rfl (fun hx => ?_) (fun hx => ?_)
  · replace h := zwp_t h hx
    replace h := zwp_r h
    exact h (some (.int x1)) rfl
  · replace h := zwp_f h hx
    refine g_aload_n (pc' := 9)  hc rfl rfl rfl rfl ?_
    refine g_iload_n (pc' := 10)  hc rfl rfl rfl ?_
    refine g_aload_n (pc' := 11)  hc rfl rfl rfl rfl ?_
    refine g_iload_n (pc' := 12)  hc rfl rfl rfl ?_
    have hb := (zwp_bnd h).1
    replace h := (zwp_bnd h).2
    refine z_iaload (pc' := 13) (v := (((I 86)) x1.toNatClampNeg)) hc rfl rfl sh_86 hb rfl rfl ?_
    have hb := (zwp_bnd h).1
    replace h := (zwp_bnd h).2
    refine z_iastore (pc' := 14) (g := x2) (L' := [(79, none, (upd x2 x1.toNatClampNeg (((I 86)) x1.toNatClampNeg)))]) hc rfl rfl sh_79 hb rfl rfl rfl rfl ?_
    refine g_iinc (pc' := 17) (ls1 := [some (.ref 75), some (.ref 86), some (.ref 79), some (.int (x1 + (1 : Int32)))]) hc rfl rfl zki_1 (zlt rfl) rfl rfl ?_
    refine g_goto hc rfl ?_
    replace h := zwp_l h
    exact h
set_option maxRecDepth 4000 in
theorem ok_X12_copies_75_88_80 {p q : Nat} {I : pI} {J : pJ} {Q : pQ} {d : Nat} (hd : 1 ≤ d) (h : zwp (f_X12_copies 1400 1400 (I 88) (I 80)) (fun o0 => Q (.inl none) (zS p q I [(80, none, o0)] J []))) : pm_call M cost zext d 157 [.ref 75, .ref 88, .ref 80] (pm_st 108 (shp p q) I J) Q := by
  obtain ⟨d, rfl⟩ := zd1 hd rfl
  have hc := pm_call_m (M := M) (cost := cost) zext_m d
  refine z_in (L := [(80, none, (I 80))]) (K := []) (ls := [some (.ref 75), some (.ref 88), some (.ref 80), none]) zmt_157 zco_157 rfl rfl (zid_a zid_n) zid_n ?_
  delta f_X12_copies at h
  refine g_iconst (pc' := 1) (v := (0 : Int32)) hc rfl zki_0 rfl ?_
  refine g_istore_n (pc' := 2) (ls1 := [some (.ref 75), some (.ref 88), some (.ref 80), some (.int (0 : Int32))]) hc rfl (zlt rfl) rfl rfl ?_
  refine zjn (G := (fun (y4 : (Nat → Int32)) => ∀ z3 : Option Value, znl z3 = true → pm_ev C_X12_copies (d + 1) (pm_call M cost zext d) cost (false, false) 108 0 0 Q 20 [some (.ref 75), some (.ref 88), some (.ref 80), z3] [] 0 0 (zS p q I [(80, none, y4)] J []))) (zwp_bind h) ?_ (fun h => ?_)
  · rintro y4 h z3 hz3
    replace h := zws h
    exact g_return hc rfl rfl (fun _ => ⟨rfl, rfl⟩) h
  refine zitr_ev (G := (fun (g : Int32 × (Nat → Int32)) => match g with | (x1, x2) => pm_ev C_X12_copies (d + 1) (pm_call M cost zext d) cost (false, false) 108 0 0 Q 2 [some (.ref 75), some (.ref 88), some (.ref 80), some (.int x1)] [] 0 0 (zS p q I [(80, none, x2)] J []))) ?_ zFU ((0 : Int32), (I 80)) h
  rintro ⟨x1, x2⟩ h
  refine g_iload_n (pc' := 3)  hc rfl rfl rfl ?_
  refine g_aload_n (pc' := 4)  hc rfl rfl rfl rfl ?_
  refine z_alen (pc' := 5) (v := (Int32.ofNat 1400)) hc rfl rfl sh_88 ⟨by decide, by decide⟩ rfl rfl ?_
  refine g_icmp_ge (pc' := 8) hc rfl rfl (fun hx => ?_) (fun hx => ?_)
  · replace h := zwp_t h hx
    replace h := zwp_r h
    exact h (some (.int x1)) rfl
  · replace h := zwp_f h hx
    refine g_aload_n (pc' := 9)  hc rfl rfl rfl rfl ?_
    refine g_iload_n (pc' := 10)  hc rfl rfl rfl ?_
    refine g_aload_n (pc' := 11)  hc rfl rfl rfl rfl ?_
    refine g_iload_n (pc' := 12)  hc rfl rfl rfl ?_
    have hb := (zwp_bnd h).1
    replace h := (zwp_bnd h).2
    refine z_iaload (pc' := 13) (v := (((I 88)) x1.toNatClampNeg)) hc rfl rfl sh_88 hb rfl rfl ?_
    have hb := (zwp_bnd h).1
    replace h := (zwp_bnd h).2
    refine z_iastore (pc' := 14) (g := x2) (L' := [(80, none, (upd x2 x1.toNatClampNeg (((I 88)) x1.toNatClampNeg)))]) hc rfl rfl sh_80 hb rfl rfl rfl rfl ?_
    refine g_iinc (pc' := 17) (ls1 := [some (.ref 75), some (.ref 88), some (.ref 80), some (.int (x1 + (1 : Int32)))]) hc rfl rfl zki_1 (zlt rfl) rfl rfl ?_
    refine g_goto hc rfl ?_
    replace h := zwp_l h
    exact h
set_option maxHeartbeats 20000000 in
set_option maxRecDepth 4000 in
theorem ok_X12_town_75 {p q : Nat} {I : pI} {J : pJ} {a1 : Int32} {Q : pQ} {d : Nat} (hd : 8 ≤ d) (h : zwp (f_X12_town a1 (I 75 50) (I 80) (I 75 39) (I 75 6) (I 75 16) (I 75 17) (I 75 3) (I 75 36) (I 75 7) (I 75 65) (I 75 8) (I 75 37) (I 79) (I 75 5) (I 75 23) (I 75 19) (I 75 32) (I 75 29) (I 75 33) (I 75 34) (I 86) (I 75 31) (I 87) (I 85) (I 75 30) (I 75 28) (I 83) (I 84) (I 75 27) (I 75 20) (I 75 60) (I 75 22) (I 88) (I 82) (I 91) (I 78) (I 75 4) (I 75 25) (I 75 21) (I 75 2) (I 81) (I 75 15) (I 90) (I 75 0) (I 75 35) (I 75 24) (I 75 38) (I 89) (I 76) (I 77) (I 75 1) (J 75 26)) (fun w => match w with | (r, o0, o1, o2, o3, o4, o5, o6, o7, o8, o9, o10, o11, o12, o13, o14, o15, o16, o17, o18, o19, o20, o21, o22, o23, o24, o25, o26, o27, o28, o29, o30, o31, o32, o33, o34, o35, o36, o37, o38, o39, o40, o41, o42, o43, o44, o45, o46, o47, o48, o49, o50) => Q (.inl (some (.int r))) (zS p q I [(75, some 0, fun _ => o42), (75, some 1, fun _ => o49), (75, some 2, fun _ => o39), (75, some 3, fun _ => o6), (75, some 4, fun _ => o36), (75, some 5, fun _ => o13), (75, some 6, fun _ => o3), (75, some 7, fun _ => o8), (75, some 8, fun _ => o10), (75, some 15, fun _ => o40), (75, some 16, fun _ => o4), (75, some 17, fun _ => o5), (75, some 19, fun _ => o15), (75, some 20, fun _ => o29), (75, some 21, fun _ => o38), (75, some 22, fun _ => o31), (75, some 23, fun _ => o14), (75, some 24, fun _ => o44), (75, some 25, fun _ => o37), (75, some 27, fun _ => o28), (75, some 28, fun _ => o25), (75, some 29, fun _ => o17), (75, some 30, fun _ => o24), (75, some 31, fun _ => o21), (75, some 32, fun _ => o16), (75, some 33, fun _ => o18), (75, some 34, fun _ => o19), (75, some 35, fun _ => o43), (75, some 36, fun _ => o7), (75, some 37, fun _ => o11), (75, some 38, fun _ => o45), (75, some 39, fun _ => o2), (75, some 50, fun _ => o0), (75, some 60, fun _ => o30), (75, some 65, fun _ => o9), (76, none, o47), (77, none, o48), (78, none, o35), (79, none, o12), (80, none, o1), (82, none, o33), (83, none, o26), (84, none, o27), (85, none, o23), (86, none, o20), (87, none, o22), (88, none, o32), (89, none, o46), (90, none, o41), (91, none, o34)] J [(75, some 26, fun _ => o50)]))) : pm_call M cost zext d 191 [.ref 75, .int a1] (pm_st 108 (shp p q) I J) Q := by
  obtain ⟨d, rfl⟩ := zd1 hd rfl
  have hc := pm_call_m (M := M) (cost := cost) zext_m d
  refine z_in (L := [(75, some 0, fun _ => (I 75 0)), (75, some 1, fun _ => (I 75 1)), (75, some 2, fun _ => (I 75 2)), (75, some 3, fun _ => (I 75 3)), (75, some 4, fun _ => (I 75 4)), (75, some 5, fun _ => (I 75 5)), (75, some 6, fun _ => (I 75 6)), (75, some 7, fun _ => (I 75 7)), (75, some 8, fun _ => (I 75 8)), (75, some 15, fun _ => (I 75 15)), (75, some 16, fun _ => (I 75 16)), (75, some 17, fun _ => (I 75 17)), (75, some 19, fun _ => (I 75 19)), (75, some 20, fun _ => (I 75 20)), (75, some 21, fun _ => (I 75 21)), (75, some 22, fun _ => (I 75 22)), (75, some 23, fun _ => (I 75 23)), (75, some 24, fun _ => (I 75 24)), (75, some 25, fun _ => (I 75 25)), (75, some 27, fun _ => (I 75 27)), (75, some 28, fun _ => (I 75 28)), (75, some 29, fun _ => (I 75 29)), (75, some 30, fun _ => (I 75 30)), (75, some 31, fun _ => (I 75 31)), (75, some 32, fun _ => (I 75 32)), (75, some 33, fun _ => (I 75 33)), (75, some 34, fun _ => (I 75 34)), (75, some 35, fun _ => (I 75 35)), (75, some 36, fun _ => (I 75 36)), (75, some 37, fun _ => (I 75 37)), (75, some 38, fun _ => (I 75 38)), (75, some 39, fun _ => (I 75 39)), (75, some 50, fun _ => (I 75 50)), (75, some 60, fun _ => (I 75 60)), (75, some 65, fun _ => (I 75 65)), (76, none, (I 76)), (77, none, (I 77)), (78, none, (I 78)), (79, none, (I 79)), (80, none, (I 80)), (82, none, (I 82)), (83, none, (I 83)), (84, none, (I 84)), (85, none, (I 85)), (86, none, (I 86)), (87, none, (I 87)), (88, none, (I 88)), (89, none, (I 89)), (90, none, (I 90)), (91, none, (I 91))]) (K := [(75, some 26, fun _ => (J 75 26))]) (ls := [some (.ref 75), some (.int a1), none]) zmt_191 zco_191 rfl rfl (zid_s (zid_s (zid_s (zid_s (zid_s (zid_s (zid_s (zid_s (zid_s (zid_s (zid_s (zid_s (zid_s (zid_s (zid_s (zid_s (zid_s (zid_s (zid_s (zid_s (zid_s (zid_s (zid_s (zid_s (zid_s (zid_s (zid_s (zid_s (zid_s (zid_s (zid_s (zid_s (zid_s (zid_s (zid_s (zid_a (zid_a (zid_a (zid_a (zid_a (zid_a (zid_a (zid_a (zid_a (zid_a (zid_a (zid_a (zid_a (zid_a (zid_a zid_n)))))))))))))))))))))))))))))))))))))))))))))))))) (zid_s zid_n) ?_
  delta f_X12_town at h
  refine g_aload_n (pc' := 1)  hc rfl rfl rfl rfl ?_
  refine g_iconst (pc' := 2) (v := (0 : Int32)) hc rfl zki_0 rfl ?_
  refine z_putI (pc' := 5) (L' := [(75, some 0, fun _ => (0 : Int32)), (75, some 1, fun _ => (I 75 1)), (75, some 2, fun _ => (I 75 2)), (75, some 3, fun _ => (I 75 3)), (75, some 4, fun _ => (I 75 4)), (75, some 5, fun _ => (I 75 5)), (75, some 6, fun _ => (I 75 6)), (75, some 7, fun _ => (I 75 7)), (75, some 8, fun _ => (I 75 8)), (75, some 15, fun _ => (I 75 15)), (75, some 16, fun _ => (I 75 16)), (75, some 17, fun _ => (I 75 17)), (75, some 19, fun _ => (I 75 19)), (75, some 20, fun _ => (I 75 20)), (75, some 21, fun _ => (I 75 21)), (75, some 22, fun _ => (I 75 22)), (75, some 23, fun _ => (I 75 23)), (75, some 24, fun _ => (I 75 24)), (75, some 25, fun _ => (I 75 25)), (75, some 27, fun _ => (I 75 27)), (75, some 28, fun _ => (I 75 28)), (75, some 29, fun _ => (I 75 29)), (75, some 30, fun _ => (I 75 30)), (75, some 31, fun _ => (I 75 31)), (75, some 32, fun _ => (I 75 32)), (75, some 33, fun _ => (I 75 33)), (75, some 34, fun _ => (I 75 34)), (75, some 35, fun _ => (I 75 35)), (75, some 36, fun _ => (I 75 36)), (75, some 37, fun _ => (I 75 37)), (75, some 38, fun _ => (I 75 38)), (75, some 39, fun _ => (I 75 39)), (75, some 50, fun _ => (I 75 50)), (75, some 60, fun _ => (I 75 60)), (75, some 65, fun _ => (I 75 65)), (76, none, (I 76)), (77, none, (I 77)), (78, none, (I 78)), (79, none, (I 79)), (80, none, (I 80)), (82, none, (I 82)), (83, none, (I 83)), (84, none, (I 84)), (85, none, (I 85)), (86, none, (I 86)), (87, none, (I 87)), (88, none, (I 88)), (89, none, (I 89)), (90, none, (I 90)), (91, none, (I 91))]) hc rfl rfl rfl sh_75 rfl zft_12_0 rfl (fun h => Bool.noConfusion h) rfl rfl rfl ?_
  refine g_aload_n (pc' := 6)  hc rfl rfl rfl rfl ?_
  refine g_iload_n (pc' := 7)  hc rfl rfl rfl ?_
  refine zjn (G := (fun (j1 : Int32) => pm_ev C_X12_town (d + 1) (pm_call M cost zext d) cost (false, false) 108 0 0 Q 23 [some (.ref 75), some (.int a1), none] [.int j1, .ref 75] 0 0 (zS p q I [(75, some 0, fun _ => (0 : Int32)), (75, some 1, fun _ => (I 75 1)), (75, some 2, fun _ => (I 75 2)), (75, some 3, fun _ => (I 75 3)), (75, some 4, fun _ => (I 75 4)), (75, some 5, fun _ => (I 75 5)), (75, some 6, fun _ => (I 75 6)), (75, some 7, fun _ => (I 75 7)), (75, some 8, fun _ => (I 75 8)), (75, some 15, fun _ => (I 75 15)), (75, some 16, fun _ => (I 75 16)), (75, some 17, fun _ => (I 75 17)), (75, some 19, fun _ => (I 75 19)), (75, some 20, fun _ => (I 75 20)), (75, some 21, fun _ => (I 75 21)), (75, some 22, fun _ => (I 75 22)), (75, some 23, fun _ => (I 75 23)), (75, some 24, fun _ => (I 75 24)), (75, some 25, fun _ => (I 75 25)), (75, some 27, fun _ => (I 75 27)), (75, some 28, fun _ => (I 75 28)), (75, some 29, fun _ => (I 75 29)), (75, some 30, fun _ => (I 75 30)), (75, some 31, fun _ => (I 75 31)), (75, some 32, fun _ => (I 75 32)), (75, some 33, fun _ => (I 75 33)), (75, some 34, fun _ => (I 75 34)), (75, some 35, fun _ => (I 75 35)), (75, some 36, fun _ => (I 75 36)), (75, some 37, fun _ => (I 75 37)), (75, some 38, fun _ => (I 75 38)), (75, some 39, fun _ => (I 75 39)), (75, some 50, fun _ => (I 75 50)), (75, some 60, fun _ => (I 75 60)), (75, some 65, fun _ => (I 75 65)), (76, none, (I 76)), (77, none, (I 77)), (78, none, (I 78)), (79, none, (I 79)), (80, none, (I 80)), (82, none, (I 82)), (83, none, (I 83)), (84, none, (I 84)), (85, none, (I 85)), (86, none, (I 86)), (87, none, (I 87)), (88, none, (I 88)), (89, none, (I 89)), (90, none, (I 90)), (91, none, (I 91))] J [(75, some 26, fun _ => (J 75 26))]))) (zwp_bind h) ?_ (fun h => ?_)
  · rintro j1 h
    refine g_iconst (pc' := 24) (v := (1 : Int32)) hc rfl zki_1 rfl ?_
    refine z_virt (as := [.int j1, .int (1 : Int32)]) (a := 75) (r := []) hc rfl rfl rfl rfl sh_75 rfl zco_153 rfl rfl rfl ?_
    refine ok_X12_right_75 (zdp hd rfl) (zwp_mono (zwp_bind h) ?_)
    rintro ⟨r3, o2⟩ h
    refine z_po (pc' := 27) (st' := [.int r3]) (v := (some (.int r3))) (L' := [(75, some 0, fun _ => o2), (75, some 1, fun _ => (I 75 1)), (75, some 2, fun _ => (I 75 2)), (75, some 3, fun _ => (I 75 3)), (75, some 4, fun _ => (I 75 4)), (75, some 5, fun _ => (I 75 5)), (75, some 6, fun _ => (I 75 6)), (75, some 7, fun _ => (I 75 7)), (75, some 8, fun _ => (I 75 8)), (75, some 15, fun _ => (I 75 15)), (75, some 16, fun _ => (I 75 16)), (75, some 17, fun _ => (I 75 17)), (75, some 19, fun _ => (I 75 19)), (75, some 20, fun _ => (I 75 20)), (75, some 21, fun _ => (I 75 21)), (75, some 22, fun _ => (I 75 22)), (75, some 23, fun _ => (I 75 23)), (75, some 24, fun _ => (I 75 24)), (75, some 25, fun _ => (I 75 25)), (75, some 27, fun _ => (I 75 27)), (75, some 28, fun _ => (I 75 28)), (75, some 29, fun _ => (I 75 29)), (75, some 30, fun _ => (I 75 30)), (75, some 31, fun _ => (I 75 31)), (75, some 32, fun _ => (I 75 32)), (75, some 33, fun _ => (I 75 33)), (75, some 34, fun _ => (I 75 34)), (75, some 35, fun _ => (I 75 35)), (75, some 36, fun _ => (I 75 36)), (75, some 37, fun _ => (I 75 37)), (75, some 38, fun _ => (I 75 38)), (75, some 39, fun _ => (I 75 39)), (75, some 50, fun _ => (I 75 50)), (75, some 60, fun _ => (I 75 60)), (75, some 65, fun _ => (I 75 65)), (76, none, (I 76)), (77, none, (I 77)), (78, none, (I 78)), (79, none, (I 79)), (80, none, (I 80)), (82, none, (I 82)), (83, none, (I 83)), (84, none, (I 84)), (85, none, (I 85)), (86, none, (I 86)), (87, none, (I 87)), (88, none, (I 88)), (89, none, (I 89)), (90, none, (I 90)), (91, none, (I 91))]) (K' := [(75, some 26, fun _ => (J 75 26))]) zco_153 rfl rfl rfl rfl rfl rfl rfl rfl ?_
    refine g_if_ne (pc' := 30) hc rfl rfl (fun hx => ?_) (fun hx => ?_)
    · replace h := zwp_f h hx
      refine g_aload_n (pc' := 33)  hc rfl rfl rfl rfl ?_
      refine g_iconst (pc' := 34) (v := (0 : Int32)) hc rfl zki_0 rfl ?_
      refine z_putI (pc' := 37) (L' := [(75, some 0, fun _ => o2), (75, some 1, fun _ => (I 75 1)), (75, some 2, fun _ => (I 75 2)), (75, some 3, fun _ => (I 75 3)), (75, some 4, fun _ => (I 75 4)), (75, some 5, fun _ => (I 75 5)), (75, some 6, fun _ => (I 75 6)), (75, some 7, fun _ => (I 75 7)), (75, some 8, fun _ => (I 75 8)), (75, some 15, fun _ => (0 : Int32)), (75, some 16, fun _ => (I 75 16)), (75, some 17, fun _ => (I 75 17)), (75, some 19, fun _ => (I 75 19)), (75, some 20, fun _ => (I 75 20)), (75, some 21, fun _ => (I 75 21)), (75, some 22, fun _ => (I 75 22)), (75, some 23, fun _ => (I 75 23)), (75, some 24, fun _ => (I 75 24)), (75, some 25, fun _ => (I 75 25)), (75, some 27, fun _ => (I 75 27)), (75, some 28, fun _ => (I 75 28)), (75, some 29, fun _ => (I 75 29)), (75, some 30, fun _ => (I 75 30)), (75, some 31, fun _ => (I 75 31)), (75, some 32, fun _ => (I 75 32)), (75, some 33, fun _ => (I 75 33)), (75, some 34, fun _ => (I 75 34)), (75, some 35, fun _ => (I 75 35)), (75, some 36, fun _ => (I 75 36)), (75, some 37, fun _ => (I 75 37)), (75, some 38, fun _ => (I 75 38)), (75, some 39, fun _ => (I 75 39)), (75, some 50, fun _ => (I 75 50)), (75, some 60, fun _ => (I 75 60)), (75, some 65, fun _ => (I 75 65)), (76, none, (I 76)), (77, none, (I 77)), (78, none, (I 78)), (79, none, (I 79)), (80, none, (I 80)), (82, none, (I 82)), (83, none, (I 83)), (84, none, (I 84)), (85, none, (I 85)), (86, none, (I 86)), (87, none, (I 87)), (88, none, (I 88)), (89, none, (I 89)), (90, none, (I 90)), (91, none, (I 91))]) hc rfl rfl rfl sh_75 rfl zft_12_15 rfl (fun h => Bool.noConfusion h) rfl rfl rfl ?_
      refine g_aload_n (pc' := 38)  hc rfl rfl rfl rfl ?_
      refine g_iconst (pc' := 39) (v := (-1 : Int32)) hc rfl zki_m1 rfl ?_
      refine z_putI (pc' := 42) (L' := [(75, some 0, fun _ => o2), (75, some 1, fun _ => (I 75 1)), (75, some 2, fun _ => (I 75 2)), (75, some 3, fun _ => (I 75 3)), (75, some 4, fun _ => (I 75 4)), (75, some 5, fun _ => (I 75 5)), (75, some 6, fun _ => (I 75 6)), (75, some 7, fun _ => (I 75 7)), (75, some 8, fun _ => (I 75 8)), (75, some 15, fun _ => (0 : Int32)), (75, some 16, fun _ => (I 75 16)), (75, some 17, fun _ => (-1 : Int32)), (75, some 19, fun _ => (I 75 19)), (75, some 20, fun _ => (I 75 20)), (75, some 21, fun _ => (I 75 21)), (75, some 22, fun _ => (I 75 22)), (75, some 23, fun _ => (I 75 23)), (75, some 24, fun _ => (I 75 24)), (75, some 25, fun _ => (I 75 25)), (75, some 27, fun _ => (I 75 27)), (75, some 28, fun _ => (I 75 28)), (75, some 29, fun _ => (I 75 29)), (75, some 30, fun _ => (I 75 30)), (75, some 31, fun _ => (I 75 31)), (75, some 32, fun _ => (I 75 32)), (75, some 33, fun _ => (I 75 33)), (75, some 34, fun _ => (I 75 34)), (75, some 35, fun _ => (I 75 35)), (75, some 36, fun _ => (I 75 36)), (75, some 37, fun _ => (I 75 37)), (75, some 38, fun _ => (I 75 38)), (75, some 39, fun _ => (I 75 39)), (75, some 50, fun _ => (I 75 50)), (75, some 60, fun _ => (I 75 60)), (75, some 65, fun _ => (I 75 65)), (76, none, (I 76)), (77, none, (I 77)), (78, none, (I 78)), (79, none, (I 79)), (80, none, (I 80)), (82, none, (I 82)), (83, none, (I 83)), (84, none, (I 84)), (85, none, (I 85)), (86, none, (I 86)), (87, none, (I 87)), (88, none, (I 88)), (89, none, (I 89)), (90, none, (I 90)), (91, none, (I 91))]) hc rfl rfl rfl sh_75 rfl zft_12_17 rfl (fun h => Bool.noConfusion h) rfl rfl rfl ?_
      refine g_aload_n (pc' := 43)  hc rfl rfl rfl rfl ?_
      refine g_iconst (pc' := 44) (v := (0 : Int32)) hc rfl zki_0 rfl ?_
      refine z_putI (pc' := 47) (L' := [(75, some 0, fun _ => o2), (75, some 1, fun _ => (I 75 1)), (75, some 2, fun _ => (I 75 2)), (75, some 3, fun _ => (I 75 3)), (75, some 4, fun _ => (I 75 4)), (75, some 5, fun _ => (I 75 5)), (75, some 6, fun _ => (I 75 6)), (75, some 7, fun _ => (I 75 7)), (75, some 8, fun _ => (I 75 8)), (75, some 15, fun _ => (0 : Int32)), (75, some 16, fun _ => (0 : Int32)), (75, some 17, fun _ => (-1 : Int32)), (75, some 19, fun _ => (I 75 19)), (75, some 20, fun _ => (I 75 20)), (75, some 21, fun _ => (I 75 21)), (75, some 22, fun _ => (I 75 22)), (75, some 23, fun _ => (I 75 23)), (75, some 24, fun _ => (I 75 24)), (75, some 25, fun _ => (I 75 25)), (75, some 27, fun _ => (I 75 27)), (75, some 28, fun _ => (I 75 28)), (75, some 29, fun _ => (I 75 29)), (75, some 30, fun _ => (I 75 30)), (75, some 31, fun _ => (I 75 31)), (75, some 32, fun _ => (I 75 32)), (75, some 33, fun _ => (I 75 33)), (75, some 34, fun _ => (I 75 34)), (75, some 35, fun _ => (I 75 35)), (75, some 36, fun _ => (I 75 36)), (75, some 37, fun _ => (I 75 37)), (75, some 38, fun _ => (I 75 38)), (75, some 39, fun _ => (I 75 39)), (75, some 50, fun _ => (I 75 50)), (75, some 60, fun _ => (I 75 60)), (75, some 65, fun _ => (I 75 65)), (76, none, (I 76)), (77, none, (I 77)), (78, none, (I 78)), (79, none, (I 79)), (80, none, (I 80)), (82, none, (I 82)), (83, none, (I 83)), (84, none, (I 84)), (85, none, (I 85)), (86, none, (I 86)), (87, none, (I 87)), (88, none, (I 88)), (89, none, (I 89)), (90, none, (I 90)), (91, none, (I 91))]) hc rfl rfl rfl sh_75 rfl zft_12_16 rfl (fun h => Bool.noConfusion h) rfl rfl rfl ?_
      refine g_aload_n (pc' := 48)  hc rfl rfl rfl rfl ?_
      refine g_iload_n (pc' := 49)  hc rfl rfl rfl ?_
      refine z_putI (pc' := 52) (L' := [(75, some 0, fun _ => o2), (75, some 1, fun _ => (I 75 1)), (75, some 2, fun _ => (I 75 2)), (75, some 3, fun _ => (I 75 3)), (75, some 4, fun _ => (I 75 4)), (75, some 5, fun _ => (I 75 5)), (75, some 6, fun _ => (I 75 6)), (75, some 7, fun _ => (I 75 7)), (75, some 8, fun _ => (I 75 8)), (75, some 15, fun _ => (0 : Int32)), (75, some 16, fun _ => (0 : Int32)), (75, some 17, fun _ => (-1 : Int32)), (75, some 19, fun _ => a1), (75, some 20, fun _ => (I 75 20)), (75, some 21, fun _ => (I 75 21)), (75, some 22, fun _ => (I 75 22)), (75, some 23, fun _ => (I 75 23)), (75, some 24, fun _ => (I 75 24)), (75, some 25, fun _ => (I 75 25)), (75, some 27, fun _ => (I 75 27)), (75, some 28, fun _ => (I 75 28)), (75, some 29, fun _ => (I 75 29)), (75, some 30, fun _ => (I 75 30)), (75, some 31, fun _ => (I 75 31)), (75, some 32, fun _ => (I 75 32)), (75, some 33, fun _ => (I 75 33)), (75, some 34, fun _ => (I 75 34)), (75, some 35, fun _ => (I 75 35)), (75, some 36, fun _ => (I 75 36)), (75, some 37, fun _ => (I 75 37)), (75, some 38, fun _ => (I 75 38)), (75, some 39, fun _ => (I 75 39)), (75, some 50, fun _ => (I 75 50)), (75, some 60, fun _ => (I 75 60)), (75, some 65, fun _ => (I 75 65)), (76, none, (I 76)), (77, none, (I 77)), (78, none, (I 78)), (79, none, (I 79)), (80, none, (I 80)), (82, none, (I 82)), (83, none, (I 83)), (84, none, (I 84)), (85, none, (I 85)), (86, none, (I 86)), (87, none, (I 87)), (88, none, (I 88)), (89, none, (I 89)), (90, none, (I 90)), (91, none, (I 91))]) hc rfl rfl rfl sh_75 rfl zft_12_19 rfl (fun h => Bool.noConfusion h) rfl rfl rfl ?_
      refine g_aload_n (pc' := 53)  hc rfl rfl rfl rfl ?_
      refine g_iconst (pc' := 54) (v := (0 : Int32)) hc rfl zki_0 rfl ?_
      refine z_putI (pc' := 57) (L' := [(75, some 0, fun _ => o2), (75, some 1, fun _ => (I 75 1)), (75, some 2, fun _ => (I 75 2)), (75, some 3, fun _ => (I 75 3)), (75, some 4, fun _ => (I 75 4)), (75, some 5, fun _ => (I 75 5)), (75, some 6, fun _ => (I 75 6)), (75, some 7, fun _ => (I 75 7)), (75, some 8, fun _ => (I 75 8)), (75, some 15, fun _ => (0 : Int32)), (75, some 16, fun _ => (0 : Int32)), (75, some 17, fun _ => (-1 : Int32)), (75, some 19, fun _ => a1), (75, some 20, fun _ => (0 : Int32)), (75, some 21, fun _ => (I 75 21)), (75, some 22, fun _ => (I 75 22)), (75, some 23, fun _ => (I 75 23)), (75, some 24, fun _ => (I 75 24)), (75, some 25, fun _ => (I 75 25)), (75, some 27, fun _ => (I 75 27)), (75, some 28, fun _ => (I 75 28)), (75, some 29, fun _ => (I 75 29)), (75, some 30, fun _ => (I 75 30)), (75, some 31, fun _ => (I 75 31)), (75, some 32, fun _ => (I 75 32)), (75, some 33, fun _ => (I 75 33)), (75, some 34, fun _ => (I 75 34)), (75, some 35, fun _ => (I 75 35)), (75, some 36, fun _ => (I 75 36)), (75, some 37, fun _ => (I 75 37)), (75, some 38, fun _ => (I 75 38)), (75, some 39, fun _ => (I 75 39)), (75, some 50, fun _ => (I 75 50)), (75, some 60, fun _ => (I 75 60)), (75, some 65, fun _ => (I 75 65)), (76, none, (I 76)), (77, none, (I 77)), (78, none, (I 78)), (79, none, (I 79)), (80, none, (I 80)), (82, none, (I 82)), (83, none, (I 83)), (84, none, (I 84)), (85, none, (I 85)), (86, none, (I 86)), (87, none, (I 87)), (88, none, (I 88)), (89, none, (I 89)), (90, none, (I 90)), (91, none, (I 91))]) hc rfl rfl rfl sh_75 rfl zft_12_20 rfl (fun h => Bool.noConfusion h) rfl rfl rfl ?_
      refine g_aload_n (pc' := 58)  hc rfl rfl rfl rfl ?_
      refine g_iconst (pc' := 59) (v := (5 : Int32)) hc rfl zki_5 rfl ?_
      refine z_putI (pc' := 62) (L' := [(75, some 0, fun _ => o2), (75, some 1, fun _ => (I 75 1)), (75, some 2, fun _ => (I 75 2)), (75, some 3, fun _ => (I 75 3)), (75, some 4, fun _ => (I 75 4)), (75, some 5, fun _ => (I 75 5)), (75, some 6, fun _ => (I 75 6)), (75, some 7, fun _ => (I 75 7)), (75, some 8, fun _ => (I 75 8)), (75, some 15, fun _ => (0 : Int32)), (75, some 16, fun _ => (0 : Int32)), (75, some 17, fun _ => (-1 : Int32)), (75, some 19, fun _ => a1), (75, some 20, fun _ => (0 : Int32)), (75, some 21, fun _ => (I 75 21)), (75, some 22, fun _ => (I 75 22)), (75, some 23, fun _ => (I 75 23)), (75, some 24, fun _ => (I 75 24)), (75, some 25, fun _ => (I 75 25)), (75, some 27, fun _ => (5 : Int32)), (75, some 28, fun _ => (I 75 28)), (75, some 29, fun _ => (I 75 29)), (75, some 30, fun _ => (I 75 30)), (75, some 31, fun _ => (I 75 31)), (75, some 32, fun _ => (I 75 32)), (75, some 33, fun _ => (I 75 33)), (75, some 34, fun _ => (I 75 34)), (75, some 35, fun _ => (I 75 35)), (75, some 36, fun _ => (I 75 36)), (75, some 37, fun _ => (I 75 37)), (75, some 38, fun _ => (I 75 38)), (75, some 39, fun _ => (I 75 39)), (75, some 50, fun _ => (I 75 50)), (75, some 60, fun _ => (I 75 60)), (75, some 65, fun _ => (I 75 65)), (76, none, (I 76)), (77, none, (I 77)), (78, none, (I 78)), (79, none, (I 79)), (80, none, (I 80)), (82, none, (I 82)), (83, none, (I 83)), (84, none, (I 84)), (85, none, (I 85)), (86, none, (I 86)), (87, none, (I 87)), (88, none, (I 88)), (89, none, (I 89)), (90, none, (I 90)), (91, none, (I 91))]) hc rfl rfl rfl sh_75 rfl zft_12_27 rfl (fun h => Bool.noConfusion h) rfl rfl rfl ?_
      refine g_aload_n (pc' := 63)  hc rfl rfl rfl rfl ?_
      refine g_iconst (pc' := 64) (v := (4 : Int32)) hc rfl zki_4 rfl ?_
      refine z_putI (pc' := 67) (L' := [(75, some 0, fun _ => o2), (75, some 1, fun _ => (I 75 1)), (75, some 2, fun _ => (I 75 2)), (75, some 3, fun _ => (I 75 3)), (75, some 4, fun _ => (I 75 4)), (75, some 5, fun _ => (I 75 5)), (75, some 6, fun _ => (I 75 6)), (75, some 7, fun _ => (I 75 7)), (75, some 8, fun _ => (I 75 8)), (75, some 15, fun _ => (0 : Int32)), (75, some 16, fun _ => (0 : Int32)), (75, some 17, fun _ => (-1 : Int32)), (75, some 19, fun _ => a1), (75, some 20, fun _ => (0 : Int32)), (75, some 21, fun _ => (I 75 21)), (75, some 22, fun _ => (I 75 22)), (75, some 23, fun _ => (I 75 23)), (75, some 24, fun _ => (I 75 24)), (75, some 25, fun _ => (I 75 25)), (75, some 27, fun _ => (5 : Int32)), (75, some 28, fun _ => (4 : Int32)), (75, some 29, fun _ => (I 75 29)), (75, some 30, fun _ => (I 75 30)), (75, some 31, fun _ => (I 75 31)), (75, some 32, fun _ => (I 75 32)), (75, some 33, fun _ => (I 75 33)), (75, some 34, fun _ => (I 75 34)), (75, some 35, fun _ => (I 75 35)), (75, some 36, fun _ => (I 75 36)), (75, some 37, fun _ => (I 75 37)), (75, some 38, fun _ => (I 75 38)), (75, some 39, fun _ => (I 75 39)), (75, some 50, fun _ => (I 75 50)), (75, some 60, fun _ => (I 75 60)), (75, some 65, fun _ => (I 75 65)), (76, none, (I 76)), (77, none, (I 77)), (78, none, (I 78)), (79, none, (I 79)), (80, none, (I 80)), (82, none, (I 82)), (83, none, (I 83)), (84, none, (I 84)), (85, none, (I 85)), (86, none, (I 86)), (87, none, (I 87)), (88, none, (I 88)), (89, none, (I 89)), (90, none, (I 90)), (91, none, (I 91))]) hc rfl rfl rfl sh_75 rfl zft_12_28 rfl (fun h => Bool.noConfusion h) rfl rfl rfl ?_
      refine g_aload_n (pc' := 68)  hc rfl rfl rfl rfl ?_
      refine g_iconst (pc' := 69) (v := (0 : Int32)) hc rfl zki_0 rfl ?_
      refine z_putI (pc' := 72) (L' := [(75, some 0, fun _ => o2), (75, some 1, fun _ => (I 75 1)), (75, some 2, fun _ => (I 75 2)), (75, some 3, fun _ => (I 75 3)), (75, some 4, fun _ => (I 75 4)), (75, some 5, fun _ => (I 75 5)), (75, some 6, fun _ => (I 75 6)), (75, some 7, fun _ => (I 75 7)), (75, some 8, fun _ => (I 75 8)), (75, some 15, fun _ => (0 : Int32)), (75, some 16, fun _ => (0 : Int32)), (75, some 17, fun _ => (-1 : Int32)), (75, some 19, fun _ => a1), (75, some 20, fun _ => (0 : Int32)), (75, some 21, fun _ => (I 75 21)), (75, some 22, fun _ => (I 75 22)), (75, some 23, fun _ => (I 75 23)), (75, some 24, fun _ => (I 75 24)), (75, some 25, fun _ => (I 75 25)), (75, some 27, fun _ => (5 : Int32)), (75, some 28, fun _ => (4 : Int32)), (75, some 29, fun _ => (0 : Int32)), (75, some 30, fun _ => (I 75 30)), (75, some 31, fun _ => (I 75 31)), (75, some 32, fun _ => (I 75 32)), (75, some 33, fun _ => (I 75 33)), (75, some 34, fun _ => (I 75 34)), (75, some 35, fun _ => (I 75 35)), (75, some 36, fun _ => (I 75 36)), (75, some 37, fun _ => (I 75 37)), (75, some 38, fun _ => (I 75 38)), (75, some 39, fun _ => (I 75 39)), (75, some 50, fun _ => (I 75 50)), (75, some 60, fun _ => (I 75 60)), (75, some 65, fun _ => (I 75 65)), (76, none, (I 76)), (77, none, (I 77)), (78, none, (I 78)), (79, none, (I 79)), (80, none, (I 80)), (82, none, (I 82)), (83, none, (I 83)), (84, none, (I 84)), (85, none, (I 85)), (86, none, (I 86)), (87, none, (I 87)), (88, none, (I 88)), (89, none, (I 89)), (90, none, (I 90)), (91, none, (I 91))]) hc rfl rfl rfl sh_75 rfl zft_12_29 rfl (fun h => Bool.noConfusion h) rfl rfl rfl ?_
      refine g_aload_n (pc' := 73)  hc rfl rfl rfl rfl ?_
      refine g_iconst (pc' := 74) (v := (0 : Int32)) hc rfl zki_0 rfl ?_
      refine z_putI (pc' := 77) (L' := [(75, some 0, fun _ => o2), (75, some 1, fun _ => (I 75 1)), (75, some 2, fun _ => (I 75 2)), (75, some 3, fun _ => (I 75 3)), (75, some 4, fun _ => (I 75 4)), (75, some 5, fun _ => (I 75 5)), (75, some 6, fun _ => (I 75 6)), (75, some 7, fun _ => (I 75 7)), (75, some 8, fun _ => (I 75 8)), (75, some 15, fun _ => (0 : Int32)), (75, some 16, fun _ => (0 : Int32)), (75, some 17, fun _ => (-1 : Int32)), (75, some 19, fun _ => a1), (75, some 20, fun _ => (0 : Int32)), (75, some 21, fun _ => (I 75 21)), (75, some 22, fun _ => (I 75 22)), (75, some 23, fun _ => (I 75 23)), (75, some 24, fun _ => (I 75 24)), (75, some 25, fun _ => (I 75 25)), (75, some 27, fun _ => (5 : Int32)), (75, some 28, fun _ => (4 : Int32)), (75, some 29, fun _ => (0 : Int32)), (75, some 30, fun _ => (0 : Int32)), (75, some 31, fun _ => (I 75 31)), (75, some 32, fun _ => (I 75 32)), (75, some 33, fun _ => (I 75 33)), (75, some 34, fun _ => (I 75 34)), (75, some 35, fun _ => (I 75 35)), (75, some 36, fun _ => (I 75 36)), (75, some 37, fun _ => (I 75 37)), (75, some 38, fun _ => (I 75 38)), (75, some 39, fun _ => (I 75 39)), (75, some 50, fun _ => (I 75 50)), (75, some 60, fun _ => (I 75 60)), (75, some 65, fun _ => (I 75 65)), (76, none, (I 76)), (77, none, (I 77)), (78, none, (I 78)), (79, none, (I 79)), (80, none, (I 80)), (82, none, (I 82)), (83, none, (I 83)), (84, none, (I 84)), (85, none, (I 85)), (86, none, (I 86)), (87, none, (I 87)), (88, none, (I 88)), (89, none, (I 89)), (90, none, (I 90)), (91, none, (I 91))]) hc rfl rfl rfl sh_75 rfl zft_12_30 rfl (fun h => Bool.noConfusion h) rfl rfl rfl ?_
      refine g_aload_n (pc' := 78)  hc rfl rfl rfl rfl ?_
      refine g_iconst (pc' := 79) (v := (0 : Int32)) hc rfl zki_0 rfl ?_
      refine z_putI (pc' := 82) (L' := [(75, some 0, fun _ => o2), (75, some 1, fun _ => (I 75 1)), (75, some 2, fun _ => (I 75 2)), (75, some 3, fun _ => (I 75 3)), (75, some 4, fun _ => (I 75 4)), (75, some 5, fun _ => (I 75 5)), (75, some 6, fun _ => (I 75 6)), (75, some 7, fun _ => (I 75 7)), (75, some 8, fun _ => (I 75 8)), (75, some 15, fun _ => (0 : Int32)), (75, some 16, fun _ => (0 : Int32)), (75, some 17, fun _ => (-1 : Int32)), (75, some 19, fun _ => a1), (75, some 20, fun _ => (0 : Int32)), (75, some 21, fun _ => (I 75 21)), (75, some 22, fun _ => (I 75 22)), (75, some 23, fun _ => (I 75 23)), (75, some 24, fun _ => (I 75 24)), (75, some 25, fun _ => (I 75 25)), (75, some 27, fun _ => (5 : Int32)), (75, some 28, fun _ => (4 : Int32)), (75, some 29, fun _ => (0 : Int32)), (75, some 30, fun _ => (0 : Int32)), (75, some 31, fun _ => (0 : Int32)), (75, some 32, fun _ => (I 75 32)), (75, some 33, fun _ => (I 75 33)), (75, some 34, fun _ => (I 75 34)), (75, some 35, fun _ => (I 75 35)), (75, some 36, fun _ => (I 75 36)), (75, some 37, fun _ => (I 75 37)), (75, some 38, fun _ => (I 75 38)), (75, some 39, fun _ => (I 75 39)), (75, some 50, fun _ => (I 75 50)), (75, some 60, fun _ => (I 75 60)), (75, some 65, fun _ => (I 75 65)), (76, none, (I 76)), (77, none, (I 77)), (78, none, (I 78)), (79, none, (I 79)), (80, none, (I 80)), (82, none, (I 82)), (83, none, (I 83)), (84, none, (I 84)), (85, none, (I 85)), (86, none, (I 86)), (87, none, (I 87)), (88, none, (I 88)), (89, none, (I 89)), (90, none, (I 90)), (91, none, (I 91))]) hc rfl rfl rfl sh_75 rfl zft_12_31 rfl (fun h => Bool.noConfusion h) rfl rfl rfl ?_
      refine g_aload_n (pc' := 83)  hc rfl rfl rfl rfl ?_
      refine g_iconst (pc' := 84) (v := (-1 : Int32)) hc rfl zki_m1 rfl ?_
      refine z_putI (pc' := 87) (L' := [(75, some 0, fun _ => o2), (75, some 1, fun _ => (I 75 1)), (75, some 2, fun _ => (I 75 2)), (75, some 3, fun _ => (I 75 3)), (75, some 4, fun _ => (I 75 4)), (75, some 5, fun _ => (I 75 5)), (75, some 6, fun _ => (I 75 6)), (75, some 7, fun _ => (I 75 7)), (75, some 8, fun _ => (I 75 8)), (75, some 15, fun _ => (0 : Int32)), (75, some 16, fun _ => (0 : Int32)), (75, some 17, fun _ => (-1 : Int32)), (75, some 19, fun _ => a1), (75, some 20, fun _ => (0 : Int32)), (75, some 21, fun _ => (I 75 21)), (75, some 22, fun _ => (I 75 22)), (75, some 23, fun _ => (I 75 23)), (75, some 24, fun _ => (I 75 24)), (75, some 25, fun _ => (I 75 25)), (75, some 27, fun _ => (5 : Int32)), (75, some 28, fun _ => (4 : Int32)), (75, some 29, fun _ => (0 : Int32)), (75, some 30, fun _ => (0 : Int32)), (75, some 31, fun _ => (0 : Int32)), (75, some 32, fun _ => (-1 : Int32)), (75, some 33, fun _ => (I 75 33)), (75, some 34, fun _ => (I 75 34)), (75, some 35, fun _ => (I 75 35)), (75, some 36, fun _ => (I 75 36)), (75, some 37, fun _ => (I 75 37)), (75, some 38, fun _ => (I 75 38)), (75, some 39, fun _ => (I 75 39)), (75, some 50, fun _ => (I 75 50)), (75, some 60, fun _ => (I 75 60)), (75, some 65, fun _ => (I 75 65)), (76, none, (I 76)), (77, none, (I 77)), (78, none, (I 78)), (79, none, (I 79)), (80, none, (I 80)), (82, none, (I 82)), (83, none, (I 83)), (84, none, (I 84)), (85, none, (I 85)), (86, none, (I 86)), (87, none, (I 87)), (88, none, (I 88)), (89, none, (I 89)), (90, none, (I 90)), (91, none, (I 91))]) hc rfl rfl rfl sh_75 rfl zft_12_32 rfl (fun h => Bool.noConfusion h) rfl rfl rfl ?_
      refine g_aload_n (pc' := 88)  hc rfl rfl rfl rfl ?_
      refine g_iconst (pc' := 89) (v := (-1 : Int32)) hc rfl zki_m1 rfl ?_
      refine z_putI (pc' := 92) (L' := [(75, some 0, fun _ => o2), (75, some 1, fun _ => (I 75 1)), (75, some 2, fun _ => (I 75 2)), (75, some 3, fun _ => (I 75 3)), (75, some 4, fun _ => (I 75 4)), (75, some 5, fun _ => (I 75 5)), (75, some 6, fun _ => (I 75 6)), (75, some 7, fun _ => (I 75 7)), (75, some 8, fun _ => (I 75 8)), (75, some 15, fun _ => (0 : Int32)), (75, some 16, fun _ => (0 : Int32)), (75, some 17, fun _ => (-1 : Int32)), (75, some 19, fun _ => a1), (75, some 20, fun _ => (0 : Int32)), (75, some 21, fun _ => (I 75 21)), (75, some 22, fun _ => (I 75 22)), (75, some 23, fun _ => (I 75 23)), (75, some 24, fun _ => (I 75 24)), (75, some 25, fun _ => (I 75 25)), (75, some 27, fun _ => (5 : Int32)), (75, some 28, fun _ => (4 : Int32)), (75, some 29, fun _ => (0 : Int32)), (75, some 30, fun _ => (0 : Int32)), (75, some 31, fun _ => (0 : Int32)), (75, some 32, fun _ => (-1 : Int32)), (75, some 33, fun _ => (-1 : Int32)), (75, some 34, fun _ => (I 75 34)), (75, some 35, fun _ => (I 75 35)), (75, some 36, fun _ => (I 75 36)), (75, some 37, fun _ => (I 75 37)), (75, some 38, fun _ => (I 75 38)), (75, some 39, fun _ => (I 75 39)), (75, some 50, fun _ => (I 75 50)), (75, some 60, fun _ => (I 75 60)), (75, some 65, fun _ => (I 75 65)), (76, none, (I 76)), (77, none, (I 77)), (78, none, (I 78)), (79, none, (I 79)), (80, none, (I 80)), (82, none, (I 82)), (83, none, (I 83)), (84, none, (I 84)), (85, none, (I 85)), (86, none, (I 86)), (87, none, (I 87)), (88, none, (I 88)), (89, none, (I 89)), (90, none, (I 90)), (91, none, (I 91))]) hc rfl rfl rfl sh_75 rfl zft_12_33 rfl (fun h => Bool.noConfusion h) rfl rfl rfl ?_
      refine g_aload_n (pc' := 93)  hc rfl rfl rfl rfl ?_
      refine g_iconst (pc' := 94) (v := (-1 : Int32)) hc rfl zki_m1 rfl ?_
      refine z_putI (pc' := 97) (L' := [(75, some 0, fun _ => o2), (75, some 1, fun _ => (I 75 1)), (75, some 2, fun _ => (I 75 2)), (75, some 3, fun _ => (I 75 3)), (75, some 4, fun _ => (I 75 4)), (75, some 5, fun _ => (I 75 5)), (75, some 6, fun _ => (I 75 6)), (75, some 7, fun _ => (I 75 7)), (75, some 8, fun _ => (I 75 8)), (75, some 15, fun _ => (0 : Int32)), (75, some 16, fun _ => (0 : Int32)), (75, some 17, fun _ => (-1 : Int32)), (75, some 19, fun _ => a1), (75, some 20, fun _ => (0 : Int32)), (75, some 21, fun _ => (I 75 21)), (75, some 22, fun _ => (I 75 22)), (75, some 23, fun _ => (I 75 23)), (75, some 24, fun _ => (I 75 24)), (75, some 25, fun _ => (I 75 25)), (75, some 27, fun _ => (5 : Int32)), (75, some 28, fun _ => (4 : Int32)), (75, some 29, fun _ => (0 : Int32)), (75, some 30, fun _ => (0 : Int32)), (75, some 31, fun _ => (0 : Int32)), (75, some 32, fun _ => (-1 : Int32)), (75, some 33, fun _ => (-1 : Int32)), (75, some 34, fun _ => (-1 : Int32)), (75, some 35, fun _ => (I 75 35)), (75, some 36, fun _ => (I 75 36)), (75, some 37, fun _ => (I 75 37)), (75, some 38, fun _ => (I 75 38)), (75, some 39, fun _ => (I 75 39)), (75, some 50, fun _ => (I 75 50)), (75, some 60, fun _ => (I 75 60)), (75, some 65, fun _ => (I 75 65)), (76, none, (I 76)), (77, none, (I 77)), (78, none, (I 78)), (79, none, (I 79)), (80, none, (I 80)), (82, none, (I 82)), (83, none, (I 83)), (84, none, (I 84)), (85, none, (I 85)), (86, none, (I 86)), (87, none, (I 87)), (88, none, (I 88)), (89, none, (I 89)), (90, none, (I 90)), (91, none, (I 91))]) hc rfl rfl rfl sh_75 rfl zft_12_34 rfl (fun h => Bool.noConfusion h) rfl rfl rfl ?_
      refine g_iconst (pc' := 98) (v := (0 : Int32)) hc rfl zki_0 rfl ?_
      refine g_istore_n (pc' := 99) (ls1 := [some (.ref 75), some (.int a1), some (.int (0 : Int32))]) hc rfl (zlt rfl) rfl rfl ?_
      refine zjn (G := (fun (y7 : (Nat → Int32)) => ∀ z6 : Option Value, znl z6 = true → pm_ev C_X12_town (d + 1) (pm_call M cost zext d) cost (false, false) 108 0 0 Q 118 [some (.ref 75), some (.int a1), z6] [] 0 0 (zS p q I [(75, some 0, fun _ => o2), (75, some 1, fun _ => (I 75 1)), (75, some 2, fun _ => (I 75 2)), (75, some 3, fun _ => (I 75 3)), (75, some 4, fun _ => (I 75 4)), (75, some 5, fun _ => (I 75 5)), (75, some 6, fun _ => (I 75 6)), (75, some 7, fun _ => (I 75 7)), (75, some 8, fun _ => (I 75 8)), (75, some 15, fun _ => (0 : Int32)), (75, some 16, fun _ => (0 : Int32)), (75, some 17, fun _ => (-1 : Int32)), (75, some 19, fun _ => a1), (75, some 20, fun _ => (0 : Int32)), (75, some 21, fun _ => (I 75 21)), (75, some 22, fun _ => (I 75 22)), (75, some 23, fun _ => (I 75 23)), (75, some 24, fun _ => (I 75 24)), (75, some 25, fun _ => (I 75 25)), (75, some 27, fun _ => (5 : Int32)), (75, some 28, fun _ => (4 : Int32)), (75, some 29, fun _ => (0 : Int32)), (75, some 30, fun _ => (0 : Int32)), (75, some 31, fun _ => (0 : Int32)), (75, some 32, fun _ => (-1 : Int32)), (75, some 33, fun _ => (-1 : Int32)), (75, some 34, fun _ => (-1 : Int32)), (75, some 35, fun _ => (I 75 35)), (75, some 36, fun _ => (I 75 36)), (75, some 37, fun _ => (I 75 37)), (75, some 38, fun _ => (I 75 38)), (75, some 39, fun _ => (I 75 39)), (75, some 50, fun _ => (I 75 50)), (75, some 60, fun _ => (I 75 60)), (75, some 65, fun _ => (I 75 65)), (76, none, (I 76)), (77, none, (I 77)), (78, none, (I 78)), (79, none, (I 79)), (80, none, (I 80)), (82, none, (I 82)), (83, none, (I 83)), (84, none, (I 84)), (85, none, (I 85)), (86, none, (I 86)), (87, none, y7), (88, none, (I 88)), (89, none, (I 89)), (90, none, (I 90)), (91, none, (I 91))] J [(75, some 26, fun _ => (J 75 26))]))) (zwp_bind h) ?_ (fun h => ?_)
      · rintro y7 h z6 hz6
        refine g_aload_n (pc' := 119)  hc rfl rfl rfl rfl ?_
        refine g_iconst (pc' := 120) (v := (0 : Int32)) hc rfl zki_0 rfl ?_
        refine z_putI (pc' := 123) (L' := [(75, some 0, fun _ => o2), (75, some 1, fun _ => (I 75 1)), (75, some 2, fun _ => (I 75 2)), (75, some 3, fun _ => (I 75 3)), (75, some 4, fun _ => (I 75 4)), (75, some 5, fun _ => (I 75 5)), (75, some 6, fun _ => (I 75 6)), (75, some 7, fun _ => (I 75 7)), (75, some 8, fun _ => (I 75 8)), (75, some 15, fun _ => (0 : Int32)), (75, some 16, fun _ => (0 : Int32)), (75, some 17, fun _ => (-1 : Int32)), (75, some 19, fun _ => a1), (75, some 20, fun _ => (0 : Int32)), (75, some 21, fun _ => (I 75 21)), (75, some 22, fun _ => (I 75 22)), (75, some 23, fun _ => (I 75 23)), (75, some 24, fun _ => (I 75 24)), (75, some 25, fun _ => (I 75 25)), (75, some 27, fun _ => (5 : Int32)), (75, some 28, fun _ => (4 : Int32)), (75, some 29, fun _ => (0 : Int32)), (75, some 30, fun _ => (0 : Int32)), (75, some 31, fun _ => (0 : Int32)), (75, some 32, fun _ => (-1 : Int32)), (75, some 33, fun _ => (-1 : Int32)), (75, some 34, fun _ => (-1 : Int32)), (75, some 35, fun _ => (0 : Int32)), (75, some 36, fun _ => (I 75 36)), (75, some 37, fun _ => (I 75 37)), (75, some 38, fun _ => (I 75 38)), (75, some 39, fun _ => (I 75 39)), (75, some 50, fun _ => (I 75 50)), (75, some 60, fun _ => (I 75 60)), (75, some 65, fun _ => (I 75 65)), (76, none, (I 76)), (77, none, (I 77)), (78, none, (I 78)), (79, none, (I 79)), (80, none, (I 80)), (82, none, (I 82)), (83, none, (I 83)), (84, none, (I 84)), (85, none, (I 85)), (86, none, (I 86)), (87, none, y7), (88, none, (I 88)), (89, none, (I 89)), (90, none, (I 90)), (91, none, (I 91))]) hc rfl rfl rfl sh_75 rfl zft_12_35 rfl (fun h => Bool.noConfusion h) rfl rfl rfl ?_
        refine g_aload_n (pc' := 124)  hc rfl rfl rfl rfl ?_
        refine z_virt (as := []) (a := 75) (r := []) hc rfl rfl rfl rfl sh_75 rfl zco_164 rfl rfl rfl ?_
        refine ok_X12_goes_75 (zdp hd rfl) (zwp_mono (zwp_bind h) ?_)
        rintro ⟨o8, o9, o10, o11, o12, o13, o14⟩ h
        refine z_po (pc' := 127) (st' := []) (v := none) (L' := [(75, some 0, fun _ => o2), (75, some 1, fun _ => (I 75 1)), (75, some 2, fun _ => (I 75 2)), (75, some 3, fun _ => (I 75 3)), (75, some 4, fun _ => (I 75 4)), (75, some 5, fun _ => (I 75 5)), (75, some 6, fun _ => (I 75 6)), (75, some 7, fun _ => (I 75 7)), (75, some 8, fun _ => (I 75 8)), (75, some 15, fun _ => (0 : Int32)), (75, some 16, fun _ => (0 : Int32)), (75, some 17, fun _ => (-1 : Int32)), (75, some 19, fun _ => a1), (75, some 20, fun _ => o9), (75, some 21, fun _ => o12), (75, some 22, fun _ => o10), (75, some 23, fun _ => o8), (75, some 24, fun _ => o13), (75, some 25, fun _ => o11), (75, some 27, fun _ => (5 : Int32)), (75, some 28, fun _ => (4 : Int32)), (75, some 29, fun _ => (0 : Int32)), (75, some 30, fun _ => (0 : Int32)), (75, some 31, fun _ => (0 : Int32)), (75, some 32, fun _ => (-1 : Int32)), (75, some 33, fun _ => (-1 : Int32)), (75, some 34, fun _ => (-1 : Int32)), (75, some 35, fun _ => (0 : Int32)), (75, some 36, fun _ => (I 75 36)), (75, some 37, fun _ => (I 75 37)), (75, some 38, fun _ => (I 75 38)), (75, some 39, fun _ => (I 75 39)), (75, some 50, fun _ => (I 75 50)), (75, some 60, fun _ => (I 75 60)), (75, some 65, fun _ => (I 75 65)), (76, none, (I 76)), (77, none, (I 77)), (78, none, (I 78)), (79, none, (I 79)), (80, none, (I 80)), (82, none, (I 82)), (83, none, (I 83)), (84, none, (I 84)), (85, none, (I 85)), (86, none, (I 86)), (87, none, y7), (88, none, (I 88)), (89, none, (I 89)), (90, none, (I 90)), (91, none, (I 91))]) (K' := [(75, some 26, fun _ => o14)]) zco_164 rfl rfl rfl rfl rfl rfl rfl rfl ?_
        refine g_aload_n (pc' := 128)  hc rfl rfl rfl rfl ?_
        refine z_virt (as := []) (a := 75) (r := []) hc rfl rfl rfl rfl sh_75 rfl zco_167 rfl rfl rfl ?_
        refine ok_X12_knownWord_75 (zdp hd rfl) (zwp_mono (zwp_bind h) ?_)
        rintro r15 h
        refine z_po (pc' := 131) (st' := [.int r15]) (v := (some (.int r15))) (L' := [(75, some 0, fun _ => o2), (75, some 1, fun _ => (I 75 1)), (75, some 2, fun _ => (I 75 2)), (75, some 3, fun _ => (I 75 3)), (75, some 4, fun _ => (I 75 4)), (75, some 5, fun _ => (I 75 5)), (75, some 6, fun _ => (I 75 6)), (75, some 7, fun _ => (I 75 7)), (75, some 8, fun _ => (I 75 8)), (75, some 15, fun _ => (0 : Int32)), (75, some 16, fun _ => (0 : Int32)), (75, some 17, fun _ => (-1 : Int32)), (75, some 19, fun _ => a1), (75, some 20, fun _ => o9), (75, some 21, fun _ => o12), (75, some 22, fun _ => o10), (75, some 23, fun _ => o8), (75, some 24, fun _ => o13), (75, some 25, fun _ => o11), (75, some 27, fun _ => (5 : Int32)), (75, some 28, fun _ => (4 : Int32)), (75, some 29, fun _ => (0 : Int32)), (75, some 30, fun _ => (0 : Int32)), (75, some 31, fun _ => (0 : Int32)), (75, some 32, fun _ => (-1 : Int32)), (75, some 33, fun _ => (-1 : Int32)), (75, some 34, fun _ => (-1 : Int32)), (75, some 35, fun _ => (0 : Int32)), (75, some 36, fun _ => (I 75 36)), (75, some 37, fun _ => (I 75 37)), (75, some 38, fun _ => (I 75 38)), (75, some 39, fun _ => (I 75 39)), (75, some 50, fun _ => (I 75 50)), (75, some 60, fun _ => (I 75 60)), (75, some 65, fun _ => (I 75 65)), (76, none, (I 76)), (77, none, (I 77)), (78, none, (I 78)), (79, none, (I 79)), (80, none, (I 80)), (82, none, (I 82)), (83, none, (I 83)), (84, none, (I 84)), (85, none, (I 85)), (86, none, (I 86)), (87, none, y7), (88, none, (I 88)), (89, none, (I 89)), (90, none, (I 90)), (91, none, (I 91))]) (K' := [(75, some 26, fun _ => o14)]) zco_167 rfl rfl rfl rfl rfl rfl rfl rfl ?_
        refine g_bipush (pc' := 133) (v := (6 : Int32)) hc rfl zkb_6 rfl ?_
        refine zjn (G := (fun (g : Int32 × Int32 × Int32 × Int32 × Int32 × Int32 × Int32 × Int32 × Int32 × Int32 × Int64) => match g with | (j16, j17, j18, j19, j20, j21, j22, j23, j24, j25, j26) => pm_ev C_X12_town (d + 1) (pm_call M cost zext d) cost (false, false) 108 0 0 Q 172 [some (.ref 75), some (.int a1), z6] [] 0 0 (zS p q I [(75, some 0, fun _ => o2), (75, some 1, fun _ => (I 75 1)), (75, some 2, fun _ => (I 75 2)), (75, some 3, fun _ => (I 75 3)), (75, some 4, fun _ => (I 75 4)), (75, some 5, fun _ => (I 75 5)), (75, some 6, fun _ => (I 75 6)), (75, some 7, fun _ => (I 75 7)), (75, some 8, fun _ => (I 75 8)), (75, some 15, fun _ => (0 : Int32)), (75, some 16, fun _ => j16), (75, some 17, fun _ => j17), (75, some 19, fun _ => a1), (75, some 20, fun _ => j21), (75, some 21, fun _ => j24), (75, some 22, fun _ => j22), (75, some 23, fun _ => j18), (75, some 24, fun _ => j25), (75, some 25, fun _ => j23), (75, some 27, fun _ => j20), (75, some 28, fun _ => j19), (75, some 29, fun _ => (0 : Int32)), (75, some 30, fun _ => (0 : Int32)), (75, some 31, fun _ => (0 : Int32)), (75, some 32, fun _ => (-1 : Int32)), (75, some 33, fun _ => (-1 : Int32)), (75, some 34, fun _ => (-1 : Int32)), (75, some 35, fun _ => (0 : Int32)), (75, some 36, fun _ => (I 75 36)), (75, some 37, fun _ => (I 75 37)), (75, some 38, fun _ => (I 75 38)), (75, some 39, fun _ => (I 75 39)), (75, some 50, fun _ => (I 75 50)), (75, some 60, fun _ => (I 75 60)), (75, some 65, fun _ => (I 75 65)), (76, none, (I 76)), (77, none, (I 77)), (78, none, (I 78)), (79, none, (I 79)), (80, none, (I 80)), (82, none, (I 82)), (83, none, (I 83)), (84, none, (I 84)), (85, none, (I 85)), (86, none, (I 86)), (87, none, y7), (88, none, (I 88)), (89, none, (I 89)), (90, none, (I 90)), (91, none, (I 91))] J [(75, some 26, fun _ => j26)]))) (zwp_bind h) ?_ (fun h => ?_)
        · rintro ⟨j16, j17, j18, j19, j20, j21, j22, j23, j24, j25, j26⟩ h
          refine zjn (G := (fun (g : Int32 × Int32 × Int32 × Int32 × Int32 × Int32 × Int32 × Int32 × Int32 × Int32 × (Nat → Int32) × Int32 × (Nat → Int32) × (Nat → Int32) × Int32 × (Nat → Int32) × (Nat → Int32) × Int32 × Int32 × (Nat → Int32) × Int32 × Int32 × (Nat → Int32) × Int32 × Int32 × Int32 × (Nat → Int32) × Int64) => match g with | (y55, y56, y57, y58, y59, y60, y61, y62, y63, y64, y65, y66, y67, y68, y69, y70, y71, y72, y73, y74, y75, y76, y77, y78, y79, y80, y81, y82) => pm_ev C_X12_town (d + 1) (pm_call M cost zext d) cost (false, false) 108 0 0 Q 193 [some (.ref 75), some (.int a1), z6] [] 0 0 (zS p q I [(75, some 0, fun _ => o2), (75, some 1, fun _ => (I 75 1)), (75, some 2, fun _ => (I 75 2)), (75, some 3, fun _ => (I 75 3)), (75, some 4, fun _ => (I 75 4)), (75, some 5, fun _ => (I 75 5)), (75, some 6, fun _ => (I 75 6)), (75, some 7, fun _ => (I 75 7)), (75, some 8, fun _ => (I 75 8)), (75, some 15, fun _ => (0 : Int32)), (75, some 16, fun _ => y56), (75, some 17, fun _ => y57), (75, some 19, fun _ => a1), (75, some 20, fun _ => y72), (75, some 21, fun _ => y76), (75, some 22, fun _ => y73), (75, some 23, fun _ => y60), (75, some 24, fun _ => y79), (75, some 25, fun _ => y75), (75, some 27, fun _ => j20), (75, some 28, fun _ => j19), (75, some 29, fun _ => y62), (75, some 30, fun _ => y69), (75, some 31, fun _ => y66), (75, some 32, fun _ => y61), (75, some 33, fun _ => y63), (75, some 34, fun _ => y64), (75, some 35, fun _ => y78), (75, some 36, fun _ => y58), (75, some 37, fun _ => y59), (75, some 38, fun _ => y80), (75, some 39, fun _ => y55), (75, some 50, fun _ => (I 75 50)), (75, some 60, fun _ => (I 75 60)), (75, some 65, fun _ => (I 75 65)), (76, none, (I 76)), (77, none, (I 77)), (78, none, (I 78)), (79, none, (I 79)), (80, none, (I 80)), (82, none, (I 82)), (83, none, y70), (84, none, y71), (85, none, y68), (86, none, y65), (87, none, y67), (88, none, y74), (89, none, y81), (90, none, y77), (91, none, (I 91))] J [(75, some 26, fun _ => y82)]))) (zwp_bind h) ?_ (fun h => ?_)
          · rintro ⟨y55, y56, y57, y58, y59, y60, y61, y62, y63, y64, y65, y66, y67, y68, y69, y70, y71, y72, y73, y74, y75, y76, y77, y78, y79, y80, y81, y82⟩ h
            refine g_aload_n (pc' := 194)  hc rfl rfl rfl rfl ?_
            refine z_virt (as := []) (a := 75) (r := []) hc rfl rfl rfl rfl sh_75 rfl zco_169 rfl rfl rfl ?_
            refine ok_X12_isGood_75 (zdp hd rfl) (zwp_mono (zwp_bind h) ?_)
            rintro r83 h
            refine z_po (pc' := 197) (st' := [.int r83]) (v := (some (.int r83))) (L' := [(75, some 0, fun _ => o2), (75, some 1, fun _ => (I 75 1)), (75, some 2, fun _ => (I 75 2)), (75, some 3, fun _ => (I 75 3)), (75, some 4, fun _ => (I 75 4)), (75, some 5, fun _ => (I 75 5)), (75, some 6, fun _ => (I 75 6)), (75, some 7, fun _ => (I 75 7)), (75, some 8, fun _ => (I 75 8)), (75, some 15, fun _ => (0 : Int32)), (75, some 16, fun _ => y56), (75, some 17, fun _ => y57), (75, some 19, fun _ => a1), (75, some 20, fun _ => y72), (75, some 21, fun _ => y76), (75, some 22, fun _ => y73), (75, some 23, fun _ => y60), (75, some 24, fun _ => y79), (75, some 25, fun _ => y75), (75, some 27, fun _ => j20), (75, some 28, fun _ => j19), (75, some 29, fun _ => y62), (75, some 30, fun _ => y69), (75, some 31, fun _ => y66), (75, some 32, fun _ => y61), (75, some 33, fun _ => y63), (75, some 34, fun _ => y64), (75, some 35, fun _ => y78), (75, some 36, fun _ => y58), (75, some 37, fun _ => y59), (75, some 38, fun _ => y80), (75, some 39, fun _ => y55), (75, some 50, fun _ => (I 75 50)), (75, some 60, fun _ => (I 75 60)), (75, some 65, fun _ => (I 75 65)), (76, none, (I 76)), (77, none, (I 77)), (78, none, (I 78)), (79, none, (I 79)), (80, none, (I 80)), (82, none, (I 82)), (83, none, y70), (84, none, y71), (85, none, y68), (86, none, y65), (87, none, y67), (88, none, y74), (89, none, y81), (90, none, y77), (91, none, (I 91))]) (K' := [(75, some 26, fun _ => y82)]) zco_169 rfl rfl rfl rfl rfl rfl rfl rfl ?_
            refine g_if_ne (pc' := 200) hc rfl rfl (fun hx => ?_) (fun hx => ?_)
            · replace h := zwp_f h hx
              refine g_aload_n (pc' := 216)  hc rfl rfl rfl rfl ?_
              refine g_aload_n (pc' := 217)  hc rfl rfl rfl rfl ?_
              refine z_getI (pc' := 220) (v := j20) hc rfl rfl rfl sh_75 rfl rfl rfl ?_
              refine z_putI (pc' := 223) (L' := [(75, some 0, fun _ => o2), (75, some 1, fun _ => j20), (75, some 2, fun _ => (I 75 2)), (75, some 3, fun _ => (I 75 3)), (75, some 4, fun _ => (I 75 4)), (75, some 5, fun _ => (I 75 5)), (75, some 6, fun _ => (I 75 6)), (75, some 7, fun _ => (I 75 7)), (75, some 8, fun _ => (I 75 8)), (75, some 15, fun _ => (0 : Int32)), (75, some 16, fun _ => y56), (75, some 17, fun _ => y57), (75, some 19, fun _ => a1), (75, some 20, fun _ => y72), (75, some 21, fun _ => y76), (75, some 22, fun _ => y73), (75, some 23, fun _ => y60), (75, some 24, fun _ => y79), (75, some 25, fun _ => y75), (75, some 27, fun _ => j20), (75, some 28, fun _ => j19), (75, some 29, fun _ => y62), (75, some 30, fun _ => y69), (75, some 31, fun _ => y66), (75, some 32, fun _ => y61), (75, some 33, fun _ => y63), (75, some 34, fun _ => y64), (75, some 35, fun _ => y78), (75, some 36, fun _ => y58), (75, some 37, fun _ => y59), (75, some 38, fun _ => y80), (75, some 39, fun _ => y55), (75, some 50, fun _ => (I 75 50)), (75, some 60, fun _ => (I 75 60)), (75, some 65, fun _ => (I 75 65)), (76, none, (I 76)), (77, none, (I 77)), (78, none, (I 78)), (79, none, (I 79)), (80, none, (I 80)), (82, none, (I 82)), (83, none, y70), (84, none, y71), (85, none, y68), (86, none, y65), (87, none, y67), (88, none, y74), (89, none, y81), (90, none, y77), (91, none, (I 91))]) hc rfl rfl rfl sh_75 rfl zft_12_1 rfl (fun h => Bool.noConfusion h) rfl rfl rfl ?_
              refine g_aload_n (pc' := 224)  hc rfl rfl rfl rfl ?_
              refine g_aload_n (pc' := 225)  hc rfl rfl rfl rfl ?_
              refine z_getI (pc' := 228) (v := j19) hc rfl rfl rfl sh_75 rfl rfl rfl ?_
              refine z_putI (pc' := 231) (L' := [(75, some 0, fun _ => o2), (75, some 1, fun _ => j20), (75, some 2, fun _ => j19), (75, some 3, fun _ => (I 75 3)), (75, some 4, fun _ => (I 75 4)), (75, some 5, fun _ => (I 75 5)), (75, some 6, fun _ => (I 75 6)), (75, some 7, fun _ => (I 75 7)), (75, some 8, fun _ => (I 75 8)), (75, some 15, fun _ => (0 : Int32)), (75, some 16, fun _ => y56), (75, some 17, fun _ => y57), (75, some 19, fun _ => a1), (75, some 20, fun _ => y72), (75, some 21, fun _ => y76), (75, some 22, fun _ => y73), (75, some 23, fun _ => y60), (75, some 24, fun _ => y79), (75, some 25, fun _ => y75), (75, some 27, fun _ => j20), (75, some 28, fun _ => j19), (75, some 29, fun _ => y62), (75, some 30, fun _ => y69), (75, some 31, fun _ => y66), (75, some 32, fun _ => y61), (75, some 33, fun _ => y63), (75, some 34, fun _ => y64), (75, some 35, fun _ => y78), (75, some 36, fun _ => y58), (75, some 37, fun _ => y59), (75, some 38, fun _ => y80), (75, some 39, fun _ => y55), (75, some 50, fun _ => (I 75 50)), (75, some 60, fun _ => (I 75 60)), (75, some 65, fun _ => (I 75 65)), (76, none, (I 76)), (77, none, (I 77)), (78, none, (I 78)), (79, none, (I 79)), (80, none, (I 80)), (82, none, (I 82)), (83, none, y70), (84, none, y71), (85, none, y68), (86, none, y65), (87, none, y67), (88, none, y74), (89, none, y81), (90, none, y77), (91, none, (I 91))]) hc rfl rfl rfl sh_75 rfl zft_12_2 rfl (fun h => Bool.noConfusion h) rfl rfl rfl ?_
              refine g_aload_n (pc' := 232)  hc rfl rfl rfl rfl ?_
              refine g_aload_n (pc' := 233)  hc rfl rfl rfl rfl ?_
              refine z_getI (pc' := 236) (v := y62) hc rfl rfl rfl sh_75 rfl rfl rfl ?_
              refine z_putI (pc' := 239) (L' := [(75, some 0, fun _ => o2), (75, some 1, fun _ => j20), (75, some 2, fun _ => j19), (75, some 3, fun _ => y62), (75, some 4, fun _ => (I 75 4)), (75, some 5, fun _ => (I 75 5)), (75, some 6, fun _ => (I 75 6)), (75, some 7, fun _ => (I 75 7)), (75, some 8, fun _ => (I 75 8)), (75, some 15, fun _ => (0 : Int32)), (75, some 16, fun _ => y56), (75, some 17, fun _ => y57), (75, some 19, fun _ => a1), (75, some 20, fun _ => y72), (75, some 21, fun _ => y76), (75, some 22, fun _ => y73), (75, some 23, fun _ => y60), (75, some 24, fun _ => y79), (75, some 25, fun _ => y75), (75, some 27, fun _ => j20), (75, some 28, fun _ => j19), (75, some 29, fun _ => y62), (75, some 30, fun _ => y69), (75, some 31, fun _ => y66), (75, some 32, fun _ => y61), (75, some 33, fun _ => y63), (75, some 34, fun _ => y64), (75, some 35, fun _ => y78), (75, some 36, fun _ => y58), (75, some 37, fun _ => y59), (75, some 38, fun _ => y80), (75, some 39, fun _ => y55), (75, some 50, fun _ => (I 75 50)), (75, some 60, fun _ => (I 75 60)), (75, some 65, fun _ => (I 75 65)), (76, none, (I 76)), (77, none, (I 77)), (78, none, (I 78)), (79, none, (I 79)), (80, none, (I 80)), (82, none, (I 82)), (83, none, y70), (84, none, y71), (85, none, y68), (86, none, y65), (87, none, y67), (88, none, y74), (89, none, y81), (90, none, y77), (91, none, (I 91))]) hc rfl rfl rfl sh_75 rfl zft_12_3 rfl (fun h => Bool.noConfusion h) rfl rfl rfl ?_
              refine g_aload_n (pc' := 240)  hc rfl rfl rfl rfl ?_
              refine g_aload_n (pc' := 241)  hc rfl rfl rfl rfl ?_
              refine z_getI (pc' := 244) (v := y69) hc rfl rfl rfl sh_75 rfl rfl rfl ?_
              refine z_putI (pc' := 247) (L' := [(75, some 0, fun _ => o2), (75, some 1, fun _ => j20), (75, some 2, fun _ => j19), (75, some 3, fun _ => y62), (75, some 4, fun _ => y69), (75, some 5, fun _ => (I 75 5)), (75, some 6, fun _ => (I 75 6)), (75, some 7, fun _ => (I 75 7)), (75, some 8, fun _ => (I 75 8)), (75, some 15, fun _ => (0 : Int32)), (75, some 16, fun _ => y56), (75, some 17, fun _ => y57), (75, some 19, fun _ => a1), (75, some 20, fun _ => y72), (75, some 21, fun _ => y76), (75, some 22, fun _ => y73), (75, some 23, fun _ => y60), (75, some 24, fun _ => y79), (75, some 25, fun _ => y75), (75, some 27, fun _ => j20), (75, some 28, fun _ => j19), (75, some 29, fun _ => y62), (75, some 30, fun _ => y69), (75, some 31, fun _ => y66), (75, some 32, fun _ => y61), (75, some 33, fun _ => y63), (75, some 34, fun _ => y64), (75, some 35, fun _ => y78), (75, some 36, fun _ => y58), (75, some 37, fun _ => y59), (75, some 38, fun _ => y80), (75, some 39, fun _ => y55), (75, some 50, fun _ => (I 75 50)), (75, some 60, fun _ => (I 75 60)), (75, some 65, fun _ => (I 75 65)), (76, none, (I 76)), (77, none, (I 77)), (78, none, (I 78)), (79, none, (I 79)), (80, none, (I 80)), (82, none, (I 82)), (83, none, y70), (84, none, y71), (85, none, y68), (86, none, y65), (87, none, y67), (88, none, y74), (89, none, y81), (90, none, y77), (91, none, (I 91))]) hc rfl rfl rfl sh_75 rfl zft_12_4 rfl (fun h => Bool.noConfusion h) rfl rfl rfl ?_
              refine g_aload_n (pc' := 248)  hc rfl rfl rfl rfl ?_
              refine g_aload_n (pc' := 249)  hc rfl rfl rfl rfl ?_
              refine z_getI (pc' := 252) (v := y66) hc rfl rfl rfl sh_75 rfl rfl rfl ?_
              refine z_putI (pc' := 255) (L' := [(75, some 0, fun _ => o2), (75, some 1, fun _ => j20), (75, some 2, fun _ => j19), (75, some 3, fun _ => y62), (75, some 4, fun _ => y69), (75, some 5, fun _ => y66), (75, some 6, fun _ => (I 75 6)), (75, some 7, fun _ => (I 75 7)), (75, some 8, fun _ => (I 75 8)), (75, some 15, fun _ => (0 : Int32)), (75, some 16, fun _ => y56), (75, some 17, fun _ => y57), (75, some 19, fun _ => a1), (75, some 20, fun _ => y72), (75, some 21, fun _ => y76), (75, some 22, fun _ => y73), (75, some 23, fun _ => y60), (75, some 24, fun _ => y79), (75, some 25, fun _ => y75), (75, some 27, fun _ => j20), (75, some 28, fun _ => j19), (75, some 29, fun _ => y62), (75, some 30, fun _ => y69), (75, some 31, fun _ => y66), (75, some 32, fun _ => y61), (75, some 33, fun _ => y63), (75, some 34, fun _ => y64), (75, some 35, fun _ => y78), (75, some 36, fun _ => y58), (75, some 37, fun _ => y59), (75, some 38, fun _ => y80), (75, some 39, fun _ => y55), (75, some 50, fun _ => (I 75 50)), (75, some 60, fun _ => (I 75 60)), (75, some 65, fun _ => (I 75 65)), (76, none, (I 76)), (77, none, (I 77)), (78, none, (I 78)), (79, none, (I 79)), (80, none, (I 80)), (82, none, (I 82)), (83, none, y70), (84, none, y71), (85, none, y68), (86, none, y65), (87, none, y67), (88, none, y74), (89, none, y81), (90, none, y77), (91, none, (I 91))]) hc rfl rfl rfl sh_75 rfl zft_12_5 rfl (fun h => Bool.noConfusion h) rfl rfl rfl ?_
              refine g_aload_n (pc' := 256)  hc rfl rfl rfl rfl ?_
              refine g_aload_n (pc' := 257)  hc rfl rfl rfl rfl ?_
              refine z_getI (pc' := 260) (v := y61) hc rfl rfl rfl sh_75 rfl rfl rfl ?_
              refine g_iconst (pc' := 261) (v := (-1 : Int32)) hc rfl zki_m1 rfl ?_
              refine zjn (G := (fun (j84 : Int32) => pm_ev C_X12_town (d + 1) (pm_call M cost zext d) cost (false, false) 108 0 0 Q 272 [some (.ref 75), some (.int a1), z6] [.int j84, .ref 75] 0 0 (zS p q I [(75, some 0, fun _ => o2), (75, some 1, fun _ => j20), (75, some 2, fun _ => j19), (75, some 3, fun _ => y62), (75, some 4, fun _ => y69), (75, some 5, fun _ => y66), (75, some 6, fun _ => (I 75 6)), (75, some 7, fun _ => (I 75 7)), (75, some 8, fun _ => (I 75 8)), (75, some 15, fun _ => (0 : Int32)), (75, some 16, fun _ => y56), (75, some 17, fun _ => y57), (75, some 19, fun _ => a1), (75, some 20, fun _ => y72), (75, some 21, fun _ => y76), (75, some 22, fun _ => y73), (75, some 23, fun _ => y60), (75, some 24, fun _ => y79), (75, some 25, fun _ => y75), (75, some 27, fun _ => j20), (75, some 28, fun _ => j19), (75, some 29, fun _ => y62), (75, some 30, fun _ => y69), (75, some 31, fun _ => y66), (75, some 32, fun _ => y61), (75, some 33, fun _ => y63), (75, some 34, fun _ => y64), (75, some 35, fun _ => y78), (75, some 36, fun _ => y58), (75, some 37, fun _ => y59), (75, some 38, fun _ => y80), (75, some 39, fun _ => y55), (75, some 50, fun _ => (I 75 50)), (75, some 60, fun _ => (I 75 60)), (75, some 65, fun _ => (I 75 65)), (76, none, (I 76)), (77, none, (I 77)), (78, none, (I 78)), (79, none, (I 79)), (80, none, (I 80)), (82, none, (I 82)), (83, none, y70), (84, none, y71), (85, none, y68), (86, none, y65), (87, none, y67), (88, none, y74), (89, none, y81), (90, none, y77), (91, none, (I 91))] J [(75, some 26, fun _ => y82)]))) (zwp_bind h) ?_ (fun h => ?_)
              · rintro j84 h
                refine z_putI (pc' := 275) (L' := [(75, some 0, fun _ => o2), (75, some 1, fun _ => j20), (75, some 2, fun _ => j19), (75, some 3, fun _ => y62), (75, some 4, fun _ => y69), (75, some 5, fun _ => y66), (75, some 6, fun _ => j84), (75, some 7, fun _ => (I 75 7)), (75, some 8, fun _ => (I 75 8)), (75, some 15, fun _ => (0 : Int32)), (75, some 16, fun _ => y56), (75, some 17, fun _ => y57), (75, some 19, fun _ => a1), (75, some 20, fun _ => y72), (75, some 21, fun _ => y76), (75, some 22, fun _ => y73), (75, some 23, fun _ => y60), (75, some 24, fun _ => y79), (75, some 25, fun _ => y75), (75, some 27, fun _ => j20), (75, some 28, fun _ => j19), (75, some 29, fun _ => y62), (75, some 30, fun _ => y69), (75, some 31, fun _ => y66), (75, some 32, fun _ => y61), (75, some 33, fun _ => y63), (75, some 34, fun _ => y64), (75, some 35, fun _ => y78), (75, some 36, fun _ => y58), (75, some 37, fun _ => y59), (75, some 38, fun _ => y80), (75, some 39, fun _ => y55), (75, some 50, fun _ => (I 75 50)), (75, some 60, fun _ => (I 75 60)), (75, some 65, fun _ => (I 75 65)), (76, none, (I 76)), (77, none, (I 77)), (78, none, (I 78)), (79, none, (I 79)), (80, none, (I 80)), (82, none, (I 82)), (83, none, y70), (84, none, y71), (85, none, y68), (86, none, y65), (87, none, y67), (88, none, y74), (89, none, y81), (90, none, y77), (91, none, (I 91))]) hc rfl rfl rfl sh_75 rfl zft_12_6 rfl (fun h => Bool.noConfusion h) rfl rfl rfl ?_
                refine g_aload_n (pc' := 276)  hc rfl rfl rfl rfl ?_
                refine g_aload_n (pc' := 277)  hc rfl rfl rfl rfl ?_
                refine z_getI (pc' := 280) (v := y63) hc rfl rfl rfl sh_75 rfl rfl rfl ?_
                refine z_putI (pc' := 283) (L' := [(75, some 0, fun _ => o2), (75, some 1, fun _ => j20), (75, some 2, fun _ => j19), (75, some 3, fun _ => y62), (75, some 4, fun _ => y69), (75, some 5, fun _ => y66), (75, some 6, fun _ => j84), (75, some 7, fun _ => y63), (75, some 8, fun _ => (I 75 8)), (75, some 15, fun _ => (0 : Int32)), (75, some 16, fun _ => y56), (75, some 17, fun _ => y57), (75, some 19, fun _ => a1), (75, some 20, fun _ => y72), (75, some 21, fun _ => y76), (75, some 22, fun _ => y73), (75, some 23, fun _ => y60), (75, some 24, fun _ => y79), (75, some 25, fun _ => y75), (75, some 27, fun _ => j20), (75, some 28, fun _ => j19), (75, some 29, fun _ => y62), (75, some 30, fun _ => y69), (75, some 31, fun _ => y66), (75, some 32, fun _ => y61), (75, some 33, fun _ => y63), (75, some 34, fun _ => y64), (75, some 35, fun _ => y78), (75, some 36, fun _ => y58), (75, some 37, fun _ => y59), (75, some 38, fun _ => y80), (75, some 39, fun _ => y55), (75, some 50, fun _ => (I 75 50)), (75, some 60, fun _ => (I 75 60)), (75, some 65, fun _ => (I 75 65)), (76, none, (I 76)), (77, none, (I 77)), (78, none, (I 78)), (79, none, (I 79)), (80, none, (I 80)), (82, none, (I 82)), (83, none, y70), (84, none, y71), (85, none, y68), (86, none, y65), (87, none, y67), (88, none, y74), (89, none, y81), (90, none, y77), (91, none, (I 91))]) hc rfl rfl rfl sh_75 rfl zft_12_7 rfl (fun h => Bool.noConfusion h) rfl rfl rfl ?_
                refine g_aload_n (pc' := 284)  hc rfl rfl rfl rfl ?_
                refine g_aload_n (pc' := 285)  hc rfl rfl rfl rfl ?_
                refine z_getI (pc' := 288) (v := y64) hc rfl rfl rfl sh_75 rfl rfl rfl ?_
                refine z_putI (pc' := 291) (L' := [(75, some 0, fun _ => o2), (75, some 1, fun _ => j20), (75, some 2, fun _ => j19), (75, some 3, fun _ => y62), (75, some 4, fun _ => y69), (75, some 5, fun _ => y66), (75, some 6, fun _ => j84), (75, some 7, fun _ => y63), (75, some 8, fun _ => y64), (75, some 15, fun _ => (0 : Int32)), (75, some 16, fun _ => y56), (75, some 17, fun _ => y57), (75, some 19, fun _ => a1), (75, some 20, fun _ => y72), (75, some 21, fun _ => y76), (75, some 22, fun _ => y73), (75, some 23, fun _ => y60), (75, some 24, fun _ => y79), (75, some 25, fun _ => y75), (75, some 27, fun _ => j20), (75, some 28, fun _ => j19), (75, some 29, fun _ => y62), (75, some 30, fun _ => y69), (75, some 31, fun _ => y66), (75, some 32, fun _ => y61), (75, some 33, fun _ => y63), (75, some 34, fun _ => y64), (75, some 35, fun _ => y78), (75, some 36, fun _ => y58), (75, some 37, fun _ => y59), (75, some 38, fun _ => y80), (75, some 39, fun _ => y55), (75, some 50, fun _ => (I 75 50)), (75, some 60, fun _ => (I 75 60)), (75, some 65, fun _ => (I 75 65)), (76, none, (I 76)), (77, none, (I 77)), (78, none, (I 78)), (79, none, (I 79)), (80, none, (I 80)), (82, none, (I 82)), (83, none, y70), (84, none, y71), (85, none, y68), (86, none, y65), (87, none, y67), (88, none, y74), (89, none, y81), (90, none, y77), (91, none, (I 91))]) hc rfl rfl rfl sh_75 rfl zft_12_8 rfl (fun h => Bool.noConfusion h) rfl rfl rfl ?_
                refine g_aload_n (pc' := 292)  hc rfl rfl rfl rfl ?_
                refine g_aload_n (pc' := 293)  hc rfl rfl rfl rfl ?_
                refine z_getR (pc' := 296)  hc rfl rfl rfl sh_75 rfl rfl ?_
                refine g_aload_n (pc' := 297)  hc rfl rfl rfl rfl ?_
                refine z_getR (pc' := 300)  hc rfl rfl rfl sh_75 rfl rfl ?_
                refine z_virt (as := [.ref 83, .ref 76]) (a := 75) (r := []) hc rfl rfl rfl rfl sh_75 rfl zco_157 rfl rfl rfl ?_
                refine ok_X12_copies_75_83_76 (zdp hd rfl) (zwp_mono (zwp_bind h) ?_)
                rintro o85 h
                refine z_po (pc' := 303) (st' := []) (v := none) (L' := [(75, some 0, fun _ => o2), (75, some 1, fun _ => j20), (75, some 2, fun _ => j19), (75, some 3, fun _ => y62), (75, some 4, fun _ => y69), (75, some 5, fun _ => y66), (75, some 6, fun _ => j84), (75, some 7, fun _ => y63), (75, some 8, fun _ => y64), (75, some 15, fun _ => (0 : Int32)), (75, some 16, fun _ => y56), (75, some 17, fun _ => y57), (75, some 19, fun _ => a1), (75, some 20, fun _ => y72), (75, some 21, fun _ => y76), (75, some 22, fun _ => y73), (75, some 23, fun _ => y60), (75, some 24, fun _ => y79), (75, some 25, fun _ => y75), (75, some 27, fun _ => j20), (75, some 28, fun _ => j19), (75, some 29, fun _ => y62), (75, some 30, fun _ => y69), (75, some 31, fun _ => y66), (75, some 32, fun _ => y61), (75, some 33, fun _ => y63), (75, some 34, fun _ => y64), (75, some 35, fun _ => y78), (75, some 36, fun _ => y58), (75, some 37, fun _ => y59), (75, some 38, fun _ => y80), (75, some 39, fun _ => y55), (75, some 50, fun _ => (I 75 50)), (75, some 60, fun _ => (I 75 60)), (75, some 65, fun _ => (I 75 65)), (76, none, o85), (77, none, (I 77)), (78, none, (I 78)), (79, none, (I 79)), (80, none, (I 80)), (82, none, (I 82)), (83, none, y70), (84, none, y71), (85, none, y68), (86, none, y65), (87, none, y67), (88, none, y74), (89, none, y81), (90, none, y77), (91, none, (I 91))]) (K' := [(75, some 26, fun _ => y82)]) zco_157 rfl rfl rfl rfl rfl rfl rfl rfl ?_
                refine g_aload_n (pc' := 304)  hc rfl rfl rfl rfl ?_
                refine g_aload_n (pc' := 305)  hc rfl rfl rfl rfl ?_
                refine z_getR (pc' := 308)  hc rfl rfl rfl sh_75 rfl rfl ?_
                refine g_aload_n (pc' := 309)  hc rfl rfl rfl rfl ?_
                refine z_getR (pc' := 312)  hc rfl rfl rfl sh_75 rfl rfl ?_
                refine z_virt (as := [.ref 84, .ref 77]) (a := 75) (r := []) hc rfl rfl rfl rfl sh_75 rfl zco_157 rfl rfl rfl ?_
                refine ok_X12_copies_75_84_77 (zdp hd rfl) (zwp_mono (zwp_bind h) ?_)
                rintro o86 h
                refine z_po (pc' := 315) (st' := []) (v := none) (L' := [(75, some 0, fun _ => o2), (75, some 1, fun _ => j20), (75, some 2, fun _ => j19), (75, some 3, fun _ => y62), (75, some 4, fun _ => y69), (75, some 5, fun _ => y66), (75, some 6, fun _ => j84), (75, some 7, fun _ => y63), (75, some 8, fun _ => y64), (75, some 15, fun _ => (0 : Int32)), (75, some 16, fun _ => y56), (75, some 17, fun _ => y57), (75, some 19, fun _ => a1), (75, some 20, fun _ => y72), (75, some 21, fun _ => y76), (75, some 22, fun _ => y73), (75, some 23, fun _ => y60), (75, some 24, fun _ => y79), (75, some 25, fun _ => y75), (75, some 27, fun _ => j20), (75, some 28, fun _ => j19), (75, some 29, fun _ => y62), (75, some 30, fun _ => y69), (75, some 31, fun _ => y66), (75, some 32, fun _ => y61), (75, some 33, fun _ => y63), (75, some 34, fun _ => y64), (75, some 35, fun _ => y78), (75, some 36, fun _ => y58), (75, some 37, fun _ => y59), (75, some 38, fun _ => y80), (75, some 39, fun _ => y55), (75, some 50, fun _ => (I 75 50)), (75, some 60, fun _ => (I 75 60)), (75, some 65, fun _ => (I 75 65)), (76, none, o85), (77, none, o86), (78, none, (I 78)), (79, none, (I 79)), (80, none, (I 80)), (82, none, (I 82)), (83, none, y70), (84, none, y71), (85, none, y68), (86, none, y65), (87, none, y67), (88, none, y74), (89, none, y81), (90, none, y77), (91, none, (I 91))]) (K' := [(75, some 26, fun _ => y82)]) zco_157 rfl rfl rfl rfl rfl rfl rfl rfl ?_
                refine g_aload_n (pc' := 316)  hc rfl rfl rfl rfl ?_
                refine g_aload_n (pc' := 317)  hc rfl rfl rfl rfl ?_
                refine z_getR (pc' := 320)  hc rfl rfl rfl sh_75 rfl rfl ?_
                refine g_aload_n (pc' := 321)  hc rfl rfl rfl rfl ?_
                refine z_getR (pc' := 324)  hc rfl rfl rfl sh_75 rfl rfl ?_
                refine z_virt (as := [.ref 85, .ref 78]) (a := 75) (r := []) hc rfl rfl rfl rfl sh_75 rfl zco_157 rfl rfl rfl ?_
                refine ok_X12_copies_75_85_78 (zdp hd rfl) (zwp_mono (zwp_bind h) ?_)
                rintro o87 h
                refine z_po (pc' := 327) (st' := []) (v := none) (L' := [(75, some 0, fun _ => o2), (75, some 1, fun _ => j20), (75, some 2, fun _ => j19), (75, some 3, fun _ => y62), (75, some 4, fun _ => y69), (75, some 5, fun _ => y66), (75, some 6, fun _ => j84), (75, some 7, fun _ => y63), (75, some 8, fun _ => y64), (75, some 15, fun _ => (0 : Int32)), (75, some 16, fun _ => y56), (75, some 17, fun _ => y57), (75, some 19, fun _ => a1), (75, some 20, fun _ => y72), (75, some 21, fun _ => y76), (75, some 22, fun _ => y73), (75, some 23, fun _ => y60), (75, some 24, fun _ => y79), (75, some 25, fun _ => y75), (75, some 27, fun _ => j20), (75, some 28, fun _ => j19), (75, some 29, fun _ => y62), (75, some 30, fun _ => y69), (75, some 31, fun _ => y66), (75, some 32, fun _ => y61), (75, some 33, fun _ => y63), (75, some 34, fun _ => y64), (75, some 35, fun _ => y78), (75, some 36, fun _ => y58), (75, some 37, fun _ => y59), (75, some 38, fun _ => y80), (75, some 39, fun _ => y55), (75, some 50, fun _ => (I 75 50)), (75, some 60, fun _ => (I 75 60)), (75, some 65, fun _ => (I 75 65)), (76, none, o85), (77, none, o86), (78, none, o87), (79, none, (I 79)), (80, none, (I 80)), (82, none, (I 82)), (83, none, y70), (84, none, y71), (85, none, y68), (86, none, y65), (87, none, y67), (88, none, y74), (89, none, y81), (90, none, y77), (91, none, (I 91))]) (K' := [(75, some 26, fun _ => y82)]) zco_157 rfl rfl rfl rfl rfl rfl rfl rfl ?_
                refine g_aload_n (pc' := 328)  hc rfl rfl rfl rfl ?_
                refine g_aload_n (pc' := 329)  hc rfl rfl rfl rfl ?_
                refine z_getR (pc' := 332)  hc rfl rfl rfl sh_75 rfl rfl ?_
                refine g_aload_n (pc' := 333)  hc rfl rfl rfl rfl ?_
                refine z_getR (pc' := 336)  hc rfl rfl rfl sh_75 rfl rfl ?_
                refine z_virt (as := [.ref 86, .ref 79]) (a := 75) (r := []) hc rfl rfl rfl rfl sh_75 rfl zco_157 rfl rfl rfl ?_
                refine ok_X12_copies_75_86_79 (zdp hd rfl) (zwp_mono (zwp_bind h) ?_)
                rintro o88 h
                refine z_po (pc' := 339) (st' := []) (v := none) (L' := [(75, some 0, fun _ => o2), (75, some 1, fun _ => j20), (75, some 2, fun _ => j19), (75, some 3, fun _ => y62), (75, some 4, fun _ => y69), (75, some 5, fun _ => y66), (75, some 6, fun _ => j84), (75, some 7, fun _ => y63), (75, some 8, fun _ => y64), (75, some 15, fun _ => (0 : Int32)), (75, some 16, fun _ => y56), (75, some 17, fun _ => y57), (75, some 19, fun _ => a1), (75, some 20, fun _ => y72), (75, some 21, fun _ => y76), (75, some 22, fun _ => y73), (75, some 23, fun _ => y60), (75, some 24, fun _ => y79), (75, some 25, fun _ => y75), (75, some 27, fun _ => j20), (75, some 28, fun _ => j19), (75, some 29, fun _ => y62), (75, some 30, fun _ => y69), (75, some 31, fun _ => y66), (75, some 32, fun _ => y61), (75, some 33, fun _ => y63), (75, some 34, fun _ => y64), (75, some 35, fun _ => y78), (75, some 36, fun _ => y58), (75, some 37, fun _ => y59), (75, some 38, fun _ => y80), (75, some 39, fun _ => y55), (75, some 50, fun _ => (I 75 50)), (75, some 60, fun _ => (I 75 60)), (75, some 65, fun _ => (I 75 65)), (76, none, o85), (77, none, o86), (78, none, o87), (79, none, o88), (80, none, (I 80)), (82, none, (I 82)), (83, none, y70), (84, none, y71), (85, none, y68), (86, none, y65), (87, none, y67), (88, none, y74), (89, none, y81), (90, none, y77), (91, none, (I 91))]) (K' := [(75, some 26, fun _ => y82)]) zco_157 rfl rfl rfl rfl rfl rfl rfl rfl ?_
                refine g_aload_n (pc' := 340)  hc rfl rfl rfl rfl ?_
                refine g_aload_n (pc' := 341)  hc rfl rfl rfl rfl ?_
                refine z_getR (pc' := 344)  hc rfl rfl rfl sh_75 rfl rfl ?_
                refine g_aload_n (pc' := 345)  hc rfl rfl rfl rfl ?_
                refine z_getR (pc' := 348)  hc rfl rfl rfl sh_75 rfl rfl ?_
                refine z_virt (as := [.ref 88, .ref 80]) (a := 75) (r := []) hc rfl rfl rfl rfl sh_75 rfl zco_157 rfl rfl rfl ?_
                refine ok_X12_copies_75_88_80 (zdp hd rfl) (zwp_mono (zwp_bind h) ?_)
                rintro o89 h
                refine z_po (pc' := 351) (st' := []) (v := none) (L' := [(75, some 0, fun _ => o2), (75, some 1, fun _ => j20), (75, some 2, fun _ => j19), (75, some 3, fun _ => y62), (75, some 4, fun _ => y69), (75, some 5, fun _ => y66), (75, some 6, fun _ => j84), (75, some 7, fun _ => y63), (75, some 8, fun _ => y64), (75, some 15, fun _ => (0 : Int32)), (75, some 16, fun _ => y56), (75, some 17, fun _ => y57), (75, some 19, fun _ => a1), (75, some 20, fun _ => y72), (75, some 21, fun _ => y76), (75, some 22, fun _ => y73), (75, some 23, fun _ => y60), (75, some 24, fun _ => y79), (75, some 25, fun _ => y75), (75, some 27, fun _ => j20), (75, some 28, fun _ => j19), (75, some 29, fun _ => y62), (75, some 30, fun _ => y69), (75, some 31, fun _ => y66), (75, some 32, fun _ => y61), (75, some 33, fun _ => y63), (75, some 34, fun _ => y64), (75, some 35, fun _ => y78), (75, some 36, fun _ => y58), (75, some 37, fun _ => y59), (75, some 38, fun _ => y80), (75, some 39, fun _ => y55), (75, some 50, fun _ => (I 75 50)), (75, some 60, fun _ => (I 75 60)), (75, some 65, fun _ => (I 75 65)), (76, none, o85), (77, none, o86), (78, none, o87), (79, none, o88), (80, none, o89), (82, none, (I 82)), (83, none, y70), (84, none, y71), (85, none, y68), (86, none, y65), (87, none, y67), (88, none, y74), (89, none, y81), (90, none, y77), (91, none, (I 91))]) (K' := [(75, some 26, fun _ => y82)]) zco_157 rfl rfl rfl rfl rfl rfl rfl rfl ?_
                refine g_iconst (pc' := 352) (v := (0 : Int32)) hc rfl zki_0 rfl ?_
                refine g_istore_n (pc' := 353) (ls1 := [some (.ref 75), some (.int a1), some (.int (0 : Int32))]) hc rfl (zlt rfl) rfl rfl ?_
                refine zjn (G := (fun (y93 : (Nat → Int32)) => ∀ z92 : Option Value, znl z92 = true → pm_ev C_X12_town (d + 1) (pm_call M cost zext d) cost (false, false) 108 0 0 Q 377 [some (.ref 75), some (.int a1), z92] [] 0 0 (zS p q I [(75, some 0, fun _ => o2), (75, some 1, fun _ => j20), (75, some 2, fun _ => j19), (75, some 3, fun _ => y62), (75, some 4, fun _ => y69), (75, some 5, fun _ => y66), (75, some 6, fun _ => j84), (75, some 7, fun _ => y63), (75, some 8, fun _ => y64), (75, some 15, fun _ => (0 : Int32)), (75, some 16, fun _ => y56), (75, some 17, fun _ => y57), (75, some 19, fun _ => a1), (75, some 20, fun _ => y72), (75, some 21, fun _ => y76), (75, some 22, fun _ => y73), (75, some 23, fun _ => y60), (75, some 24, fun _ => y79), (75, some 25, fun _ => y75), (75, some 27, fun _ => j20), (75, some 28, fun _ => j19), (75, some 29, fun _ => y62), (75, some 30, fun _ => y69), (75, some 31, fun _ => y66), (75, some 32, fun _ => y61), (75, some 33, fun _ => y63), (75, some 34, fun _ => y64), (75, some 35, fun _ => y78), (75, some 36, fun _ => y58), (75, some 37, fun _ => y59), (75, some 38, fun _ => y80), (75, some 39, fun _ => y55), (75, some 50, fun _ => (I 75 50)), (75, some 60, fun _ => (I 75 60)), (75, some 65, fun _ => (I 75 65)), (76, none, o85), (77, none, o86), (78, none, o87), (79, none, o88), (80, none, o89), (82, none, (I 82)), (83, none, y70), (84, none, y71), (85, none, y68), (86, none, y65), (87, none, y67), (88, none, y74), (89, none, y81), (90, none, y77), (91, none, y93)] J [(75, some 26, fun _ => y82)]))) (zwp_bind h) ?_ (fun h => ?_)
                · rintro y93 h z92 hz92
                  refine g_aload_n (pc' := 378)  hc rfl rfl rfl rfl ?_
                  refine g_iconst (pc' := 379) (v := (0 : Int32)) hc rfl zki_0 rfl ?_
                  refine z_putI (pc' := 382) (L' := [(75, some 0, fun _ => o2), (75, some 1, fun _ => j20), (75, some 2, fun _ => j19), (75, some 3, fun _ => y62), (75, some 4, fun _ => y69), (75, some 5, fun _ => y66), (75, some 6, fun _ => j84), (75, some 7, fun _ => y63), (75, some 8, fun _ => y64), (75, some 15, fun _ => (0 : Int32)), (75, some 16, fun _ => y56), (75, some 17, fun _ => y57), (75, some 19, fun _ => a1), (75, some 20, fun _ => y72), (75, some 21, fun _ => y76), (75, some 22, fun _ => y73), (75, some 23, fun _ => y60), (75, some 24, fun _ => y79), (75, some 25, fun _ => y75), (75, some 27, fun _ => j20), (75, some 28, fun _ => j19), (75, some 29, fun _ => y62), (75, some 30, fun _ => y69), (75, some 31, fun _ => y66), (75, some 32, fun _ => y61), (75, some 33, fun _ => y63), (75, some 34, fun _ => y64), (75, some 35, fun _ => y78), (75, some 36, fun _ => y58), (75, some 37, fun _ => y59), (75, some 38, fun _ => y80), (75, some 39, fun _ => y55), (75, some 50, fun _ => (0 : Int32)), (75, some 60, fun _ => (I 75 60)), (75, some 65, fun _ => (I 75 65)), (76, none, o85), (77, none, o86), (78, none, o87), (79, none, o88), (80, none, o89), (82, none, (I 82)), (83, none, y70), (84, none, y71), (85, none, y68), (86, none, y65), (87, none, y67), (88, none, y74), (89, none, y81), (90, none, y77), (91, none, y93)]) hc rfl rfl rfl sh_75 rfl zft_12_50 rfl (fun h => Bool.noConfusion h) rfl rfl rfl ?_
                  refine g_aload_n (pc' := 383)  hc rfl rfl rfl rfl ?_
                  refine g_iconst (pc' := 384) (v := (0 : Int32)) hc rfl zki_0 rfl ?_
                  refine z_putI (pc' := 387) (L' := [(75, some 0, fun _ => o2), (75, some 1, fun _ => j20), (75, some 2, fun _ => j19), (75, some 3, fun _ => y62), (75, some 4, fun _ => y69), (75, some 5, fun _ => y66), (75, some 6, fun _ => j84), (75, some 7, fun _ => y63), (75, some 8, fun _ => y64), (75, some 15, fun _ => (0 : Int32)), (75, some 16, fun _ => y56), (75, some 17, fun _ => y57), (75, some 19, fun _ => a1), (75, some 20, fun _ => y72), (75, some 21, fun _ => y76), (75, some 22, fun _ => y73), (75, some 23, fun _ => y60), (75, some 24, fun _ => y79), (75, some 25, fun _ => y75), (75, some 27, fun _ => j20), (75, some 28, fun _ => j19), (75, some 29, fun _ => y62), (75, some 30, fun _ => y69), (75, some 31, fun _ => y66), (75, some 32, fun _ => y61), (75, some 33, fun _ => y63), (75, some 34, fun _ => y64), (75, some 35, fun _ => y78), (75, some 36, fun _ => y58), (75, some 37, fun _ => y59), (75, some 38, fun _ => y80), (75, some 39, fun _ => y55), (75, some 50, fun _ => (0 : Int32)), (75, some 60, fun _ => (0 : Int32)), (75, some 65, fun _ => (I 75 65)), (76, none, o85), (77, none, o86), (78, none, o87), (79, none, o88), (80, none, o89), (82, none, (I 82)), (83, none, y70), (84, none, y71), (85, none, y68), (86, none, y65), (87, none, y67), (88, none, y74), (89, none, y81), (90, none, y77), (91, none, y93)]) hc rfl rfl rfl sh_75 rfl zft_12_60 rfl (fun h => Bool.noConfusion h) rfl rfl rfl ?_
                  refine g_aload_n (pc' := 388)  hc rfl rfl rfl rfl ?_
                  refine g_iconst (pc' := 389) (v := (0 : Int32)) hc rfl zki_0 rfl ?_
                  refine z_putI (pc' := 392) (L' := [(75, some 0, fun _ => o2), (75, some 1, fun _ => j20), (75, some 2, fun _ => j19), (75, some 3, fun _ => y62), (75, some 4, fun _ => y69), (75, some 5, fun _ => y66), (75, some 6, fun _ => j84), (75, some 7, fun _ => y63), (75, some 8, fun _ => y64), (75, some 15, fun _ => (0 : Int32)), (75, some 16, fun _ => y56), (75, some 17, fun _ => y57), (75, some 19, fun _ => a1), (75, some 20, fun _ => y72), (75, some 21, fun _ => y76), (75, some 22, fun _ => y73), (75, some 23, fun _ => y60), (75, some 24, fun _ => y79), (75, some 25, fun _ => y75), (75, some 27, fun _ => j20), (75, some 28, fun _ => j19), (75, some 29, fun _ => y62), (75, some 30, fun _ => y69), (75, some 31, fun _ => y66), (75, some 32, fun _ => y61), (75, some 33, fun _ => y63), (75, some 34, fun _ => y64), (75, some 35, fun _ => y78), (75, some 36, fun _ => y58), (75, some 37, fun _ => y59), (75, some 38, fun _ => y80), (75, some 39, fun _ => y55), (75, some 50, fun _ => (0 : Int32)), (75, some 60, fun _ => (0 : Int32)), (75, some 65, fun _ => (0 : Int32)), (76, none, o85), (77, none, o86), (78, none, o87), (79, none, o88), (80, none, o89), (82, none, (I 82)), (83, none, y70), (84, none, y71), (85, none, y68), (86, none, y65), (87, none, y67), (88, none, y74), (89, none, y81), (90, none, y77), (91, none, y93)]) hc rfl rfl rfl sh_75 rfl zft_12_65 rfl (fun h => Bool.noConfusion h) rfl rfl rfl ?_
                  refine g_iconst (pc' := 393) (v := (0 : Int32)) hc rfl zki_0 rfl ?_
                  replace h := zws h
                  exact g_ireturn hc rfl rfl rfl (fun _ => ⟨rfl, rfl⟩) h
                refine zitr_ev (G := (fun (g : Int32 × (Nat → Int32)) => match g with | (x90, x91) => pm_ev C_X12_town (d + 1) (pm_call M cost zext d) cost (false, false) 108 0 0 Q 353 [some (.ref 75), some (.int a1), some (.int x90)] [] 0 0 (zS p q I [(75, some 0, fun _ => o2), (75, some 1, fun _ => j20), (75, some 2, fun _ => j19), (75, some 3, fun _ => y62), (75, some 4, fun _ => y69), (75, some 5, fun _ => y66), (75, some 6, fun _ => j84), (75, some 7, fun _ => y63), (75, some 8, fun _ => y64), (75, some 15, fun _ => (0 : Int32)), (75, some 16, fun _ => y56), (75, some 17, fun _ => y57), (75, some 19, fun _ => a1), (75, some 20, fun _ => y72), (75, some 21, fun _ => y76), (75, some 22, fun _ => y73), (75, some 23, fun _ => y60), (75, some 24, fun _ => y79), (75, some 25, fun _ => y75), (75, some 27, fun _ => j20), (75, some 28, fun _ => j19), (75, some 29, fun _ => y62), (75, some 30, fun _ => y69), (75, some 31, fun _ => y66), (75, some 32, fun _ => y61), (75, some 33, fun _ => y63), (75, some 34, fun _ => y64), (75, some 35, fun _ => y78), (75, some 36, fun _ => y58), (75, some 37, fun _ => y59), (75, some 38, fun _ => y80), (75, some 39, fun _ => y55), (75, some 50, fun _ => (I 75 50)), (75, some 60, fun _ => (I 75 60)), (75, some 65, fun _ => (I 75 65)), (76, none, o85), (77, none, o86), (78, none, o87), (79, none, o88), (80, none, o89), (82, none, (I 82)), (83, none, y70), (84, none, y71), (85, none, y68), (86, none, y65), (87, none, y67), (88, none, y74), (89, none, y81), (90, none, y77), (91, none, x91)] J [(75, some 26, fun _ => y82)]))) ?_ zFU ((0 : Int32), (I 91)) h
                rintro ⟨x90, x91⟩ h
                refine g_iload_n (pc' := 354)  hc rfl rfl rfl ?_
                refine g_bipush (pc' := 356) (v := (70 : Int32)) hc rfl zkb_70 rfl ?_
                refine g_icmp_ge (pc' := 359) hc rfl rfl (fun hx => ?_) (fun hx => ?_)
                · replace h := zwp_t h hx
                  replace h := zwp_r h
                  exact h (some (.int x90)) rfl
                · replace h := zwp_f h hx
                  refine g_aload_n (pc' := 360)  hc rfl rfl rfl rfl ?_
                  refine z_getR (pc' := 363)  hc rfl rfl rfl sh_75 rfl rfl ?_
                  refine g_iload_n (pc' := 364)  hc rfl rfl rfl ?_
                  refine g_aload_n (pc' := 365)  hc rfl rfl rfl rfl ?_
                  refine z_getR (pc' := 368)  hc rfl rfl rfl sh_75 rfl rfl ?_
                  refine g_iload_n (pc' := 369)  hc rfl rfl rfl ?_
                  have hb := (zwp_bnd h).1
                  replace h := (zwp_bnd h).2
                  refine z_iaload (pc' := 370) (v := (y67 x90.toNatClampNeg)) hc rfl rfl sh_87 hb rfl rfl ?_
                  have hb := (zwp_bnd h).1
                  replace h := (zwp_bnd h).2
                  refine z_iastore (pc' := 371) (g := x91) (L' := [(75, some 0, fun _ => o2), (75, some 1, fun _ => j20), (75, some 2, fun _ => j19), (75, some 3, fun _ => y62), (75, some 4, fun _ => y69), (75, some 5, fun _ => y66), (75, some 6, fun _ => j84), (75, some 7, fun _ => y63), (75, some 8, fun _ => y64), (75, some 15, fun _ => (0 : Int32)), (75, some 16, fun _ => y56), (75, some 17, fun _ => y57), (75, some 19, fun _ => a1), (75, some 20, fun _ => y72), (75, some 21, fun _ => y76), (75, some 22, fun _ => y73), (75, some 23, fun _ => y60), (75, some 24, fun _ => y79), (75, some 25, fun _ => y75), (75, some 27, fun _ => j20), (75, some 28, fun _ => j19), (75, some 29, fun _ => y62), (75, some 30, fun _ => y69), (75, some 31, fun _ => y66), (75, some 32, fun _ => y61), (75, some 33, fun _ => y63), (75, some 34, fun _ => y64), (75, some 35, fun _ => y78), (75, some 36, fun _ => y58), (75, some 37, fun _ => y59), (75, some 38, fun _ => y80), (75, some 39, fun _ => y55), (75, some 50, fun _ => (I 75 50)), (75, some 60, fun _ => (I 75 60)), (75, some 65, fun _ => (I 75 65)), (76, none, o85), (77, none, o86), (78, none, o87), (79, none, o88), (80, none, o89), (82, none, (I 82)), (83, none, y70), (84, none, y71), (85, none, y68), (86, none, y65), (87, none, y67), (88, none, y74), (89, none, y81), (90, none, y77), (91, none, (upd x91 x90.toNatClampNeg (y67 x90.toNatClampNeg)))]) hc rfl rfl sh_91 hb rfl rfl rfl rfl ?_
                  refine g_iinc (pc' := 374) (ls1 := [some (.ref 75), some (.int a1), some (.int (x90 + (1 : Int32)))]) hc rfl rfl zki_1 (zlt rfl) rfl rfl ?_
                  refine g_goto hc rfl ?_
                  replace h := zwp_l h
                  exact h
              refine g_icmp_ne (pc' := 264) hc rfl rfl (fun hx => ?_) (fun hx => ?_)
              · replace h := zwp_f h hx
                refine g_aload_n (pc' := 269)  hc rfl rfl rfl rfl ?_
                refine z_getI (pc' := 272) (v := y61) hc rfl rfl rfl sh_75 rfl rfl rfl ?_
                replace h := zws h
                exact h
              · replace h := zwp_t h hx
                refine g_iconst (pc' := 265) (v := (3 : Int32)) hc rfl zki_3 rfl ?_
                refine g_goto hc rfl ?_
                replace h := zws h
                exact h
            · replace h := zwp_t h hx
              refine g_aload_n (pc' := 201)  hc rfl rfl rfl rfl ?_
              refine z_getR (pc' := 204)  hc rfl rfl rfl sh_75 rfl rfl ?_
              refine g_iconst (pc' := 205) (v := (0 : Int32)) hc rfl zki_0 rfl ?_
              refine g_dup2 (pc' := 206)  hc rfl rfl rfl rfl ?_
              refine z_iaload (pc' := 207) (v := (((I 82)) 0)) hc rfl rfl sh_82 (by decide) rfl rfl ?_
              refine g_iconst (pc' := 208) (v := (1 : Int32)) hc rfl zki_1 rfl ?_
              refine g_iadd (pc' := 209)  hc rfl rfl ?_
              refine z_iastore (pc' := 210) (g := (I 82)) (L' := [(75, some 0, fun _ => o2), (75, some 1, fun _ => (I 75 1)), (75, some 2, fun _ => (I 75 2)), (75, some 3, fun _ => (I 75 3)), (75, some 4, fun _ => (I 75 4)), (75, some 5, fun _ => (I 75 5)), (75, some 6, fun _ => (I 75 6)), (75, some 7, fun _ => (I 75 7)), (75, some 8, fun _ => (I 75 8)), (75, some 15, fun _ => (0 : Int32)), (75, some 16, fun _ => y56), (75, some 17, fun _ => y57), (75, some 19, fun _ => a1), (75, some 20, fun _ => y72), (75, some 21, fun _ => y76), (75, some 22, fun _ => y73), (75, some 23, fun _ => y60), (75, some 24, fun _ => y79), (75, some 25, fun _ => y75), (75, some 27, fun _ => j20), (75, some 28, fun _ => j19), (75, some 29, fun _ => y62), (75, some 30, fun _ => y69), (75, some 31, fun _ => y66), (75, some 32, fun _ => y61), (75, some 33, fun _ => y63), (75, some 34, fun _ => y64), (75, some 35, fun _ => y78), (75, some 36, fun _ => y58), (75, some 37, fun _ => y59), (75, some 38, fun _ => y80), (75, some 39, fun _ => y55), (75, some 50, fun _ => (I 75 50)), (75, some 60, fun _ => (I 75 60)), (75, some 65, fun _ => (I 75 65)), (76, none, (I 76)), (77, none, (I 77)), (78, none, (I 78)), (79, none, (I 79)), (80, none, (I 80)), (82, none, (upd ((I 82)) 0 ((((I 82)) 0) + (1 : Int32)))), (83, none, y70), (84, none, y71), (85, none, y68), (86, none, y65), (87, none, y67), (88, none, y74), (89, none, y81), (90, none, y77), (91, none, (I 91))]) hc rfl rfl sh_82 (by decide) rfl rfl rfl rfl ?_
              refine g_aload_n (pc' := 211)  hc rfl rfl rfl rfl ?_
              refine z_getI (pc' := 214) (v := y56) hc rfl rfl rfl sh_75 rfl rfl rfl ?_
              replace h := zws h
              exact g_ireturn hc rfl rfl rfl (fun _ => ⟨rfl, rfl⟩) h
          refine zitr_ev (G := (fun (g : Int32 × Int32 × Int32 × Int32 × Int32 × Int32 × Int32 × Int32 × Int32 × Int32 × (Nat → Int32) × Int32 × (Nat → Int32) × (Nat → Int32) × Int32 × (Nat → Int32) × (Nat → Int32) × Int32 × Int32 × (Nat → Int32) × Int32 × Int32 × (Nat → Int32) × Int32 × Int32 × Int32 × (Nat → Int32) × Int64) => match g with | (x27, x28, x29, x30, x31, x32, x33, x34, x35, x36, x37, x38, x39, x40, x41, x42, x43, x44, x45, x46, x47, x48, x49, x50, x51, x52, x53, x54) => pm_ev C_X12_town (d + 1) (pm_call M cost zext d) cost (false, false) 108 0 0 Q 172 [some (.ref 75), some (.int a1), z6] [] 0 0 (zS p q I [(75, some 0, fun _ => o2), (75, some 1, fun _ => (I 75 1)), (75, some 2, fun _ => (I 75 2)), (75, some 3, fun _ => (I 75 3)), (75, some 4, fun _ => (I 75 4)), (75, some 5, fun _ => (I 75 5)), (75, some 6, fun _ => (I 75 6)), (75, some 7, fun _ => (I 75 7)), (75, some 8, fun _ => (I 75 8)), (75, some 15, fun _ => (0 : Int32)), (75, some 16, fun _ => x28), (75, some 17, fun _ => x29), (75, some 19, fun _ => a1), (75, some 20, fun _ => x44), (75, some 21, fun _ => x48), (75, some 22, fun _ => x45), (75, some 23, fun _ => x32), (75, some 24, fun _ => x51), (75, some 25, fun _ => x47), (75, some 27, fun _ => j20), (75, some 28, fun _ => j19), (75, some 29, fun _ => x34), (75, some 30, fun _ => x41), (75, some 31, fun _ => x38), (75, some 32, fun _ => x33), (75, some 33, fun _ => x35), (75, some 34, fun _ => x36), (75, some 35, fun _ => x50), (75, some 36, fun _ => x30), (75, some 37, fun _ => x31), (75, some 38, fun _ => x52), (75, some 39, fun _ => x27), (75, some 50, fun _ => (I 75 50)), (75, some 60, fun _ => (I 75 60)), (75, some 65, fun _ => (I 75 65)), (76, none, (I 76)), (77, none, (I 77)), (78, none, (I 78)), (79, none, (I 79)), (80, none, (I 80)), (82, none, (I 82)), (83, none, x42), (84, none, x43), (85, none, x40), (86, none, x37), (87, none, x39), (88, none, x46), (89, none, x53), (90, none, x49), (91, none, (I 91))] J [(75, some 26, fun _ => x54)]))) ?_ zFU ((I 75 39), j16, j17, (I 75 36), (I 75 37), j18, (-1 : Int32), (0 : Int32), (-1 : Int32), (-1 : Int32), (I 86), (0 : Int32), y7, (I 85), (0 : Int32), (I 83), (I 84), j21, j22, (I 88), j23, j24, (I 90), (0 : Int32), j25, (I 75 38), (I 89), j26) h
          rintro ⟨x27, x28, x29, x30, x31, x32, x33, x34, x35, x36, x37, x38, x39, x40, x41, x42, x43, x44, x45, x46, x47, x48, x49, x50, x51, x52, x53, x54⟩ h
          refine g_aload_n (pc' := 173)  hc rfl rfl rfl rfl ?_
          refine z_virt (as := []) (a := 75) (r := []) hc rfl rfl rfl rfl sh_75 rfl zco_169 rfl rfl rfl ?_
          refine ok_X12_isGood_75 (zdp hd rfl) (zwp_mono (zwp_bind h) ?_)
          rintro r94 h
          refine z_po (pc' := 176) (st' := [.int r94]) (v := (some (.int r94))) (L' := [(75, some 0, fun _ => o2), (75, some 1, fun _ => (I 75 1)), (75, some 2, fun _ => (I 75 2)), (75, some 3, fun _ => (I 75 3)), (75, some 4, fun _ => (I 75 4)), (75, some 5, fun _ => (I 75 5)), (75, some 6, fun _ => (I 75 6)), (75, some 7, fun _ => (I 75 7)), (75, some 8, fun _ => (I 75 8)), (75, some 15, fun _ => (0 : Int32)), (75, some 16, fun _ => x28), (75, some 17, fun _ => x29), (75, some 19, fun _ => a1), (75, some 20, fun _ => x44), (75, some 21, fun _ => x48), (75, some 22, fun _ => x45), (75, some 23, fun _ => x32), (75, some 24, fun _ => x51), (75, some 25, fun _ => x47), (75, some 27, fun _ => j20), (75, some 28, fun _ => j19), (75, some 29, fun _ => x34), (75, some 30, fun _ => x41), (75, some 31, fun _ => x38), (75, some 32, fun _ => x33), (75, some 33, fun _ => x35), (75, some 34, fun _ => x36), (75, some 35, fun _ => x50), (75, some 36, fun _ => x30), (75, some 37, fun _ => x31), (75, some 38, fun _ => x52), (75, some 39, fun _ => x27), (75, some 50, fun _ => (I 75 50)), (75, some 60, fun _ => (I 75 60)), (75, some 65, fun _ => (I 75 65)), (76, none, (I 76)), (77, none, (I 77)), (78, none, (I 78)), (79, none, (I 79)), (80, none, (I 80)), (82, none, (I 82)), (83, none, x42), (84, none, x43), (85, none, x40), (86, none, x37), (87, none, x39), (88, none, x46), (89, none, x53), (90, none, x49), (91, none, (I 91))]) (K' := [(75, some 26, fun _ => x54)]) zco_169 rfl rfl rfl rfl rfl rfl rfl rfl ?_
          refine g_if_eq (pc' := 179) hc rfl rfl (fun hx => ?_) (fun hx => ?_)
          · replace h := zwp_t h hx
            replace h := zwp_r h
            exact h
          · replace h := zwp_f h hx
            refine g_aload_n (pc' := 180)  hc rfl rfl rfl rfl ?_
            refine z_getI (pc' := 183) (v := x48) hc rfl rfl rfl sh_75 rfl rfl rfl ?_
            refine g_if_eq (pc' := 186) hc rfl rfl (fun hx => ?_) (fun hx => ?_)
            · replace h := zwp_t h hx
              replace h := zwp_r h
              exact h
            · replace h := zwp_f h hx
              refine g_aload_n (pc' := 187)  hc rfl rfl rfl rfl ?_
              refine z_virt (as := []) (a := 75) (r := []) hc rfl rfl rfl rfl sh_75 rfl zco_190 rfl rfl rfl ?_
              refine ok_X12_line_75 (zdp hd rfl) (zwp_mono (zwp_bind h) ?_)
              rintro ⟨o95, o96, o97, o98, o99, o100, o101, o102, o103, o104, o105, o106, o107, o108, o109, o110, o111, o112, o113, o114, o115, o116, o117, o118, o119, o120, o121, o122⟩ h
              refine z_po (pc' := 190) (st' := []) (v := none) (L' := [(75, some 0, fun _ => o2), (75, some 1, fun _ => (I 75 1)), (75, some 2, fun _ => (I 75 2)), (75, some 3, fun _ => (I 75 3)), (75, some 4, fun _ => (I 75 4)), (75, some 5, fun _ => (I 75 5)), (75, some 6, fun _ => (I 75 6)), (75, some 7, fun _ => (I 75 7)), (75, some 8, fun _ => (I 75 8)), (75, some 15, fun _ => (0 : Int32)), (75, some 16, fun _ => o96), (75, some 17, fun _ => o97), (75, some 19, fun _ => a1), (75, some 20, fun _ => o112), (75, some 21, fun _ => o116), (75, some 22, fun _ => o113), (75, some 23, fun _ => o100), (75, some 24, fun _ => o119), (75, some 25, fun _ => o115), (75, some 27, fun _ => j20), (75, some 28, fun _ => j19), (75, some 29, fun _ => o102), (75, some 30, fun _ => o109), (75, some 31, fun _ => o106), (75, some 32, fun _ => o101), (75, some 33, fun _ => o103), (75, some 34, fun _ => o104), (75, some 35, fun _ => o118), (75, some 36, fun _ => o98), (75, some 37, fun _ => o99), (75, some 38, fun _ => o120), (75, some 39, fun _ => o95), (75, some 50, fun _ => (I 75 50)), (75, some 60, fun _ => (I 75 60)), (75, some 65, fun _ => (I 75 65)), (76, none, (I 76)), (77, none, (I 77)), (78, none, (I 78)), (79, none, (I 79)), (80, none, (I 80)), (82, none, (I 82)), (83, none, o110), (84, none, o111), (85, none, o108), (86, none, o105), (87, none, o107), (88, none, o114), (89, none, o121), (90, none, o117), (91, none, (I 91))]) (K' := [(75, some 26, fun _ => o122)]) zco_190 rfl rfl rfl rfl rfl rfl rfl rfl ?_
              refine g_goto hc rfl ?_
              replace h := zwp_l h
              exact h
        refine g_icmp_ne (pc' := 136) hc rfl rfl (fun hx => ?_) (fun hx => ?_)
        · replace h := zwp_f h hx
          replace h := zws h
          exact h
        · replace h := zwp_t h hx
          refine g_aload_n (pc' := 137)  hc rfl rfl rfl rfl ?_
          refine z_virt (as := []) (a := 75) (r := []) hc rfl rfl rfl rfl sh_75 rfl zco_164 rfl rfl rfl ?_
          refine ok_X12_goes_75 (zdp hd rfl) (zwp_mono (zwp_bind h) ?_)
          rintro ⟨o123, o124, o125, o126, o127, o128, o129⟩ h
          refine z_po (pc' := 140) (st' := []) (v := none) (L' := [(75, some 0, fun _ => o2), (75, some 1, fun _ => (I 75 1)), (75, some 2, fun _ => (I 75 2)), (75, some 3, fun _ => (I 75 3)), (75, some 4, fun _ => (I 75 4)), (75, some 5, fun _ => (I 75 5)), (75, some 6, fun _ => (I 75 6)), (75, some 7, fun _ => (I 75 7)), (75, some 8, fun _ => (I 75 8)), (75, some 15, fun _ => (0 : Int32)), (75, some 16, fun _ => (0 : Int32)), (75, some 17, fun _ => (-1 : Int32)), (75, some 19, fun _ => a1), (75, some 20, fun _ => o124), (75, some 21, fun _ => o127), (75, some 22, fun _ => o125), (75, some 23, fun _ => o123), (75, some 24, fun _ => o128), (75, some 25, fun _ => o126), (75, some 27, fun _ => (5 : Int32)), (75, some 28, fun _ => (4 : Int32)), (75, some 29, fun _ => (0 : Int32)), (75, some 30, fun _ => (0 : Int32)), (75, some 31, fun _ => (0 : Int32)), (75, some 32, fun _ => (-1 : Int32)), (75, some 33, fun _ => (-1 : Int32)), (75, some 34, fun _ => (-1 : Int32)), (75, some 35, fun _ => (0 : Int32)), (75, some 36, fun _ => (I 75 36)), (75, some 37, fun _ => (I 75 37)), (75, some 38, fun _ => (I 75 38)), (75, some 39, fun _ => (I 75 39)), (75, some 50, fun _ => (I 75 50)), (75, some 60, fun _ => (I 75 60)), (75, some 65, fun _ => (I 75 65)), (76, none, (I 76)), (77, none, (I 77)), (78, none, (I 78)), (79, none, (I 79)), (80, none, (I 80)), (82, none, (I 82)), (83, none, (I 83)), (84, none, (I 84)), (85, none, (I 85)), (86, none, (I 86)), (87, none, y7), (88, none, (I 88)), (89, none, (I 89)), (90, none, (I 90)), (91, none, (I 91))]) (K' := [(75, some 26, fun _ => o129)]) zco_164 rfl rfl rfl rfl rfl rfl rfl rfl ?_
          refine g_aload_n (pc' := 141)  hc rfl rfl rfl rfl ?_
          refine g_aload_n (pc' := 142)  hc rfl rfl rfl rfl ?_
          refine g_iconst (pc' := 143) (v := (2 : Int32)) hc rfl zki_2 rfl ?_
          refine g_bipush (pc' := 145) (v := (6 : Int32)) hc rfl zkb_6 rfl ?_
          refine z_virt (as := [.int (2 : Int32), .int (6 : Int32)]) (a := 75) (r := [.ref 75]) hc rfl rfl rfl rfl sh_75 rfl zco_172 rfl rfl rfl ?_
          refine ok_X12_number_75 (zdp hd rfl) (zwp_mono (zwp_bind h) ?_)
          rintro ⟨r139, o130, o131, o132, o133, o134, o135, o136, o137, o138⟩ h
          refine z_po (pc' := 148) (st' := [.int r139, .ref 75]) (v := (some (.int r139))) (L' := [(75, some 0, fun _ => o2), (75, some 1, fun _ => (I 75 1)), (75, some 2, fun _ => (I 75 2)), (75, some 3, fun _ => (I 75 3)), (75, some 4, fun _ => (I 75 4)), (75, some 5, fun _ => (I 75 5)), (75, some 6, fun _ => (I 75 6)), (75, some 7, fun _ => (I 75 7)), (75, some 8, fun _ => (I 75 8)), (75, some 15, fun _ => (0 : Int32)), (75, some 16, fun _ => o130), (75, some 17, fun _ => o131), (75, some 19, fun _ => a1), (75, some 20, fun _ => o133), (75, some 21, fun _ => o136), (75, some 22, fun _ => o134), (75, some 23, fun _ => o132), (75, some 24, fun _ => o137), (75, some 25, fun _ => o135), (75, some 27, fun _ => (5 : Int32)), (75, some 28, fun _ => (4 : Int32)), (75, some 29, fun _ => (0 : Int32)), (75, some 30, fun _ => (0 : Int32)), (75, some 31, fun _ => (0 : Int32)), (75, some 32, fun _ => (-1 : Int32)), (75, some 33, fun _ => (-1 : Int32)), (75, some 34, fun _ => (-1 : Int32)), (75, some 35, fun _ => (0 : Int32)), (75, some 36, fun _ => (I 75 36)), (75, some 37, fun _ => (I 75 37)), (75, some 38, fun _ => (I 75 38)), (75, some 39, fun _ => (I 75 39)), (75, some 50, fun _ => (I 75 50)), (75, some 60, fun _ => (I 75 60)), (75, some 65, fun _ => (I 75 65)), (76, none, (I 76)), (77, none, (I 77)), (78, none, (I 78)), (79, none, (I 79)), (80, none, (I 80)), (82, none, (I 82)), (83, none, (I 83)), (84, none, (I 84)), (85, none, (I 85)), (86, none, (I 86)), (87, none, y7), (88, none, (I 88)), (89, none, (I 89)), (90, none, (I 90)), (91, none, (I 91))]) (K' := [(75, some 26, fun _ => o138)]) zco_172 rfl rfl rfl rfl rfl rfl rfl rfl ?_
          refine z_putI (pc' := 151) (L' := [(75, some 0, fun _ => o2), (75, some 1, fun _ => (I 75 1)), (75, some 2, fun _ => (I 75 2)), (75, some 3, fun _ => (I 75 3)), (75, some 4, fun _ => (I 75 4)), (75, some 5, fun _ => (I 75 5)), (75, some 6, fun _ => (I 75 6)), (75, some 7, fun _ => (I 75 7)), (75, some 8, fun _ => (I 75 8)), (75, some 15, fun _ => (0 : Int32)), (75, some 16, fun _ => o130), (75, some 17, fun _ => o131), (75, some 19, fun _ => a1), (75, some 20, fun _ => o133), (75, some 21, fun _ => o136), (75, some 22, fun _ => o134), (75, some 23, fun _ => o132), (75, some 24, fun _ => o137), (75, some 25, fun _ => o135), (75, some 27, fun _ => r139), (75, some 28, fun _ => (4 : Int32)), (75, some 29, fun _ => (0 : Int32)), (75, some 30, fun _ => (0 : Int32)), (75, some 31, fun _ => (0 : Int32)), (75, some 32, fun _ => (-1 : Int32)), (75, some 33, fun _ => (-1 : Int32)), (75, some 34, fun _ => (-1 : Int32)), (75, some 35, fun _ => (0 : Int32)), (75, some 36, fun _ => (I 75 36)), (75, some 37, fun _ => (I 75 37)), (75, some 38, fun _ => (I 75 38)), (75, some 39, fun _ => (I 75 39)), (75, some 50, fun _ => (I 75 50)), (75, some 60, fun _ => (I 75 60)), (75, some 65, fun _ => (I 75 65)), (76, none, (I 76)), (77, none, (I 77)), (78, none, (I 78)), (79, none, (I 79)), (80, none, (I 80)), (82, none, (I 82)), (83, none, (I 83)), (84, none, (I 84)), (85, none, (I 85)), (86, none, (I 86)), (87, none, y7), (88, none, (I 88)), (89, none, (I 89)), (90, none, (I 90)), (91, none, (I 91))]) hc rfl rfl rfl sh_75 rfl zft_12_27 rfl (fun h => Bool.noConfusion h) rfl rfl rfl ?_
          refine g_aload_n (pc' := 152)  hc rfl rfl rfl rfl ?_
          refine g_aload_n (pc' := 153)  hc rfl rfl rfl rfl ?_
          refine g_iconst (pc' := 154) (v := (2 : Int32)) hc rfl zki_2 rfl ?_
          refine g_bipush (pc' := 156) (v := (6 : Int32)) hc rfl zkb_6 rfl ?_
          refine z_virt (as := [.int (2 : Int32), .int (6 : Int32)]) (a := 75) (r := [.ref 75]) hc rfl rfl rfl rfl sh_75 rfl zco_172 rfl rfl rfl ?_
          refine ok_X12_number_75 (zdp hd rfl) (zwp_mono (zwp_bind h) ?_)
          rintro ⟨r149, o140, o141, o142, o143, o144, o145, o146, o147, o148⟩ h
          refine z_po (pc' := 159) (st' := [.int r149, .ref 75]) (v := (some (.int r149))) (L' := [(75, some 0, fun _ => o2), (75, some 1, fun _ => (I 75 1)), (75, some 2, fun _ => (I 75 2)), (75, some 3, fun _ => (I 75 3)), (75, some 4, fun _ => (I 75 4)), (75, some 5, fun _ => (I 75 5)), (75, some 6, fun _ => (I 75 6)), (75, some 7, fun _ => (I 75 7)), (75, some 8, fun _ => (I 75 8)), (75, some 15, fun _ => (0 : Int32)), (75, some 16, fun _ => o140), (75, some 17, fun _ => o141), (75, some 19, fun _ => a1), (75, some 20, fun _ => o143), (75, some 21, fun _ => o146), (75, some 22, fun _ => o144), (75, some 23, fun _ => o142), (75, some 24, fun _ => o147), (75, some 25, fun _ => o145), (75, some 27, fun _ => r139), (75, some 28, fun _ => (4 : Int32)), (75, some 29, fun _ => (0 : Int32)), (75, some 30, fun _ => (0 : Int32)), (75, some 31, fun _ => (0 : Int32)), (75, some 32, fun _ => (-1 : Int32)), (75, some 33, fun _ => (-1 : Int32)), (75, some 34, fun _ => (-1 : Int32)), (75, some 35, fun _ => (0 : Int32)), (75, some 36, fun _ => (I 75 36)), (75, some 37, fun _ => (I 75 37)), (75, some 38, fun _ => (I 75 38)), (75, some 39, fun _ => (I 75 39)), (75, some 50, fun _ => (I 75 50)), (75, some 60, fun _ => (I 75 60)), (75, some 65, fun _ => (I 75 65)), (76, none, (I 76)), (77, none, (I 77)), (78, none, (I 78)), (79, none, (I 79)), (80, none, (I 80)), (82, none, (I 82)), (83, none, (I 83)), (84, none, (I 84)), (85, none, (I 85)), (86, none, (I 86)), (87, none, y7), (88, none, (I 88)), (89, none, (I 89)), (90, none, (I 90)), (91, none, (I 91))]) (K' := [(75, some 26, fun _ => o148)]) zco_172 rfl rfl rfl rfl rfl rfl rfl rfl ?_
          refine z_putI (pc' := 162) (L' := [(75, some 0, fun _ => o2), (75, some 1, fun _ => (I 75 1)), (75, some 2, fun _ => (I 75 2)), (75, some 3, fun _ => (I 75 3)), (75, some 4, fun _ => (I 75 4)), (75, some 5, fun _ => (I 75 5)), (75, some 6, fun _ => (I 75 6)), (75, some 7, fun _ => (I 75 7)), (75, some 8, fun _ => (I 75 8)), (75, some 15, fun _ => (0 : Int32)), (75, some 16, fun _ => o140), (75, some 17, fun _ => o141), (75, some 19, fun _ => a1), (75, some 20, fun _ => o143), (75, some 21, fun _ => o146), (75, some 22, fun _ => o144), (75, some 23, fun _ => o142), (75, some 24, fun _ => o147), (75, some 25, fun _ => o145), (75, some 27, fun _ => r139), (75, some 28, fun _ => r149), (75, some 29, fun _ => (0 : Int32)), (75, some 30, fun _ => (0 : Int32)), (75, some 31, fun _ => (0 : Int32)), (75, some 32, fun _ => (-1 : Int32)), (75, some 33, fun _ => (-1 : Int32)), (75, some 34, fun _ => (-1 : Int32)), (75, some 35, fun _ => (0 : Int32)), (75, some 36, fun _ => (I 75 36)), (75, some 37, fun _ => (I 75 37)), (75, some 38, fun _ => (I 75 38)), (75, some 39, fun _ => (I 75 39)), (75, some 50, fun _ => (I 75 50)), (75, some 60, fun _ => (I 75 60)), (75, some 65, fun _ => (I 75 65)), (76, none, (I 76)), (77, none, (I 77)), (78, none, (I 78)), (79, none, (I 79)), (80, none, (I 80)), (82, none, (I 82)), (83, none, (I 83)), (84, none, (I 84)), (85, none, (I 85)), (86, none, (I 86)), (87, none, y7), (88, none, (I 88)), (89, none, (I 89)), (90, none, (I 90)), (91, none, (I 91))]) hc rfl rfl rfl sh_75 rfl zft_12_28 rfl (fun h => Bool.noConfusion h) rfl rfl rfl ?_
          refine g_aload_n (pc' := 163)  hc rfl rfl rfl rfl ?_
          refine g_aload_n (pc' := 164)  hc rfl rfl rfl rfl ?_
          refine g_bipush (pc' := 166) (v := (59 : Int32)) hc rfl zkb_59 rfl ?_
          refine z_virt (as := [.int (59 : Int32)]) (a := 75) (r := [.ref 75]) hc rfl rfl rfl rfl sh_75 rfl zco_170 rfl rfl rfl ?_
          refine ok_X12_isSign_75 (zdp hd rfl) (zwp_mono (zwp_bind h) ?_)
          rintro r150 h
          refine z_po (pc' := 169) (st' := [.int r150, .ref 75]) (v := (some (.int r150))) (L' := [(75, some 0, fun _ => o2), (75, some 1, fun _ => (I 75 1)), (75, some 2, fun _ => (I 75 2)), (75, some 3, fun _ => (I 75 3)), (75, some 4, fun _ => (I 75 4)), (75, some 5, fun _ => (I 75 5)), (75, some 6, fun _ => (I 75 6)), (75, some 7, fun _ => (I 75 7)), (75, some 8, fun _ => (I 75 8)), (75, some 15, fun _ => (0 : Int32)), (75, some 16, fun _ => o140), (75, some 17, fun _ => o141), (75, some 19, fun _ => a1), (75, some 20, fun _ => o143), (75, some 21, fun _ => o146), (75, some 22, fun _ => o144), (75, some 23, fun _ => o142), (75, some 24, fun _ => o147), (75, some 25, fun _ => o145), (75, some 27, fun _ => r139), (75, some 28, fun _ => r149), (75, some 29, fun _ => (0 : Int32)), (75, some 30, fun _ => (0 : Int32)), (75, some 31, fun _ => (0 : Int32)), (75, some 32, fun _ => (-1 : Int32)), (75, some 33, fun _ => (-1 : Int32)), (75, some 34, fun _ => (-1 : Int32)), (75, some 35, fun _ => (0 : Int32)), (75, some 36, fun _ => (I 75 36)), (75, some 37, fun _ => (I 75 37)), (75, some 38, fun _ => (I 75 38)), (75, some 39, fun _ => (I 75 39)), (75, some 50, fun _ => (I 75 50)), (75, some 60, fun _ => (I 75 60)), (75, some 65, fun _ => (I 75 65)), (76, none, (I 76)), (77, none, (I 77)), (78, none, (I 78)), (79, none, (I 79)), (80, none, (I 80)), (82, none, (I 82)), (83, none, (I 83)), (84, none, (I 84)), (85, none, (I 85)), (86, none, (I 86)), (87, none, y7), (88, none, (I 88)), (89, none, (I 89)), (90, none, (I 90)), (91, none, (I 91))]) (K' := [(75, some 26, fun _ => o148)]) zco_170 rfl rfl rfl rfl rfl rfl rfl rfl ?_
          refine z_virt (as := [.int r150]) (a := 75) (r := []) hc rfl rfl rfl rfl sh_75 rfl zco_171 rfl rfl rfl ?_
          refine ok_X12_need_75 (zdp hd rfl) (zwp_mono (zwp_bind h) ?_)
          rintro ⟨o151, o152, o153, o154, o155, o156, o157, o158, o159⟩ h
          refine z_po (pc' := 172) (st' := []) (v := none) (L' := [(75, some 0, fun _ => o2), (75, some 1, fun _ => (I 75 1)), (75, some 2, fun _ => (I 75 2)), (75, some 3, fun _ => (I 75 3)), (75, some 4, fun _ => (I 75 4)), (75, some 5, fun _ => (I 75 5)), (75, some 6, fun _ => (I 75 6)), (75, some 7, fun _ => (I 75 7)), (75, some 8, fun _ => (I 75 8)), (75, some 15, fun _ => (0 : Int32)), (75, some 16, fun _ => o151), (75, some 17, fun _ => o152), (75, some 19, fun _ => a1), (75, some 20, fun _ => o154), (75, some 21, fun _ => o157), (75, some 22, fun _ => o155), (75, some 23, fun _ => o153), (75, some 24, fun _ => o158), (75, some 25, fun _ => o156), (75, some 27, fun _ => r139), (75, some 28, fun _ => r149), (75, some 29, fun _ => (0 : Int32)), (75, some 30, fun _ => (0 : Int32)), (75, some 31, fun _ => (0 : Int32)), (75, some 32, fun _ => (-1 : Int32)), (75, some 33, fun _ => (-1 : Int32)), (75, some 34, fun _ => (-1 : Int32)), (75, some 35, fun _ => (0 : Int32)), (75, some 36, fun _ => (I 75 36)), (75, some 37, fun _ => (I 75 37)), (75, some 38, fun _ => (I 75 38)), (75, some 39, fun _ => (I 75 39)), (75, some 50, fun _ => (I 75 50)), (75, some 60, fun _ => (I 75 60)), (75, some 65, fun _ => (I 75 65)), (76, none, (I 76)), (77, none, (I 77)), (78, none, (I 78)), (79, none, (I 79)), (80, none, (I 80)), (82, none, (I 82)), (83, none, (I 83)), (84, none, (I 84)), (85, none, (I 85)), (86, none, (I 86)), (87, none, y7), (88, none, (I 88)), (89, none, (I 89)), (90, none, (I 90)), (91, none, (I 91))]) (K' := [(75, some 26, fun _ => o159)]) zco_171 rfl rfl rfl rfl rfl rfl rfl rfl ?_
          replace h := zws h
          exact h
      refine zitr_ev (G := (fun (g : Int32 × (Nat → Int32)) => match g with | (x4, x5) => pm_ev C_X12_town (d + 1) (pm_call M cost zext d) cost (false, false) 108 0 0 Q 99 [some (.ref 75), some (.int a1), some (.int x4)] [] 0 0 (zS p q I [(75, some 0, fun _ => o2), (75, some 1, fun _ => (I 75 1)), (75, some 2, fun _ => (I 75 2)), (75, some 3, fun _ => (I 75 3)), (75, some 4, fun _ => (I 75 4)), (75, some 5, fun _ => (I 75 5)), (75, some 6, fun _ => (I 75 6)), (75, some 7, fun _ => (I 75 7)), (75, some 8, fun _ => (I 75 8)), (75, some 15, fun _ => (0 : Int32)), (75, some 16, fun _ => (0 : Int32)), (75, some 17, fun _ => (-1 : Int32)), (75, some 19, fun _ => a1), (75, some 20, fun _ => (0 : Int32)), (75, some 21, fun _ => (I 75 21)), (75, some 22, fun _ => (I 75 22)), (75, some 23, fun _ => (I 75 23)), (75, some 24, fun _ => (I 75 24)), (75, some 25, fun _ => (I 75 25)), (75, some 27, fun _ => (5 : Int32)), (75, some 28, fun _ => (4 : Int32)), (75, some 29, fun _ => (0 : Int32)), (75, some 30, fun _ => (0 : Int32)), (75, some 31, fun _ => (0 : Int32)), (75, some 32, fun _ => (-1 : Int32)), (75, some 33, fun _ => (-1 : Int32)), (75, some 34, fun _ => (-1 : Int32)), (75, some 35, fun _ => (I 75 35)), (75, some 36, fun _ => (I 75 36)), (75, some 37, fun _ => (I 75 37)), (75, some 38, fun _ => (I 75 38)), (75, some 39, fun _ => (I 75 39)), (75, some 50, fun _ => (I 75 50)), (75, some 60, fun _ => (I 75 60)), (75, some 65, fun _ => (I 75 65)), (76, none, (I 76)), (77, none, (I 77)), (78, none, (I 78)), (79, none, (I 79)), (80, none, (I 80)), (82, none, (I 82)), (83, none, (I 83)), (84, none, (I 84)), (85, none, (I 85)), (86, none, (I 86)), (87, none, x5), (88, none, (I 88)), (89, none, (I 89)), (90, none, (I 90)), (91, none, (I 91))] J [(75, some 26, fun _ => (J 75 26))]))) ?_ zFU ((0 : Int32), (I 87)) h
      rintro ⟨x4, x5⟩ h
      refine g_iload_n (pc' := 100)  hc rfl rfl rfl ?_
      refine g_bipush (pc' := 102) (v := (70 : Int32)) hc rfl zkb_70 rfl ?_
      refine g_icmp_ge (pc' := 105) hc rfl rfl (fun hx => ?_) (fun hx => ?_)
      · replace h := zwp_t h hx
        replace h := zwp_r h
        exact h (some (.int x4)) rfl
      · replace h := zwp_f h hx
        refine g_aload_n (pc' := 106)  hc rfl rfl rfl rfl ?_
        refine z_getR (pc' := 109)  hc rfl rfl rfl sh_75 rfl rfl ?_
        refine g_iload_n (pc' := 110)  hc rfl rfl rfl ?_
        refine g_iconst (pc' := 111) (v := (0 : Int32)) hc rfl zki_0 rfl ?_
        have hb := (zwp_bnd h).1
        replace h := (zwp_bnd h).2
        refine z_iastore (pc' := 112) (g := x5) (L' := [(75, some 0, fun _ => o2), (75, some 1, fun _ => (I 75 1)), (75, some 2, fun _ => (I 75 2)), (75, some 3, fun _ => (I 75 3)), (75, some 4, fun _ => (I 75 4)), (75, some 5, fun _ => (I 75 5)), (75, some 6, fun _ => (I 75 6)), (75, some 7, fun _ => (I 75 7)), (75, some 8, fun _ => (I 75 8)), (75, some 15, fun _ => (0 : Int32)), (75, some 16, fun _ => (0 : Int32)), (75, some 17, fun _ => (-1 : Int32)), (75, some 19, fun _ => a1), (75, some 20, fun _ => (0 : Int32)), (75, some 21, fun _ => (I 75 21)), (75, some 22, fun _ => (I 75 22)), (75, some 23, fun _ => (I 75 23)), (75, some 24, fun _ => (I 75 24)), (75, some 25, fun _ => (I 75 25)), (75, some 27, fun _ => (5 : Int32)), (75, some 28, fun _ => (4 : Int32)), (75, some 29, fun _ => (0 : Int32)), (75, some 30, fun _ => (0 : Int32)), (75, some 31, fun _ => (0 : Int32)), (75, some 32, fun _ => (-1 : Int32)), (75, some 33, fun _ => (-1 : Int32)), (75, some 34, fun _ => (-1 : Int32)), (75, some 35, fun _ => (I 75 35)), (75, some 36, fun _ => (I 75 36)), (75, some 37, fun _ => (I 75 37)), (75, some 38, fun _ => (I 75 38)), (75, some 39, fun _ => (I 75 39)), (75, some 50, fun _ => (I 75 50)), (75, some 60, fun _ => (I 75 60)), (75, some 65, fun _ => (I 75 65)), (76, none, (I 76)), (77, none, (I 77)), (78, none, (I 78)), (79, none, (I 79)), (80, none, (I 80)), (82, none, (I 82)), (83, none, (I 83)), (84, none, (I 84)), (85, none, (I 85)), (86, none, (I 86)), (87, none, (upd x5 x4.toNatClampNeg (0 : Int32))), (88, none, (I 88)), (89, none, (I 89)), (90, none, (I 90)), (91, none, (I 91))]) hc rfl rfl sh_87 hb rfl rfl rfl rfl ?_
        refine g_iinc (pc' := 115) (ls1 := [some (.ref 75), some (.int a1), some (.int (x4 + (1 : Int32)))]) hc rfl rfl zki_1 (zlt rfl) rfl rfl ?_
        refine g_goto hc rfl ?_
        replace h := zwp_l h
        exact h
    · replace h := zwp_t h hx
      refine g_iconst (pc' := 31) (v := (0 : Int32)) hc rfl zki_0 rfl ?_
      replace h := zws h
      exact g_ireturn hc rfl rfl rfl (fun _ => ⟨rfl, rfl⟩) h
  refine g_if_lt (pc' := 10) hc rfl rfl (fun hx => ?_) (fun hx => ?_)
  · replace h := zwp_t h hx
    refine g_iconst (pc' := 23) (v := (0 : Int32)) hc rfl zki_0 rfl ?_
    replace h := zws h
    exact h
  · replace h := zwp_f h hx
    refine g_iload_n (pc' := 11)  hc rfl rfl rfl ?_
    refine g_aload_n (pc' := 12)  hc rfl rfl rfl rfl ?_
    refine z_getI (pc' := 15) (v := (I 75 15)) hc rfl rfl rfl sh_75 rfl rfl rfl ?_
    refine g_icmp_gt (pc' := 18) hc rfl rfl (fun hx => ?_) (fun hx => ?_)
    · replace h := zwp_t h hx
      refine g_iconst (pc' := 23) (v := (0 : Int32)) hc rfl zki_0 rfl ?_
      replace h := zws h
      exact h
    · replace h := zwp_f h hx
      refine g_iconst (pc' := 19) (v := (1 : Int32)) hc rfl zki_1 rfl ?_
      refine g_goto hc rfl ?_
      replace h := zws h
      exact h
set_option maxRecDepth 4000 in
theorem ok_X12_fault_75 {p q : Nat} {I : pI} {J : pJ} {Q : pQ} {d : Nat} (hd : 1 ≤ d) (h : zwp (f_X12_fault (I 75 17) (I 75 0)) (fun w => match w with | (r, o0) => Q (.inl (some (.int r))) (zS p q I [(75, some 0, fun _ => o0)] J []))) : pm_call M cost zext d 192 [.ref 75] (pm_st 108 (shp p q) I J) Q := by
  obtain ⟨d, rfl⟩ := zd1 hd rfl
  have hc := pm_call_m (M := M) (cost := cost) zext_m d
  refine z_in (L := [(75, some 0, fun _ => (I 75 0))]) (K := []) (ls := [some (.ref 75)]) zmt_192 zco_192 rfl rfl (zid_s zid_n) zid_n ?_
  delta f_X12_fault at h
  refine g_aload_n (pc' := 1)  hc rfl rfl rfl rfl ?_
  refine g_iconst (pc' := 2) (v := (0 : Int32)) hc rfl zki_0 rfl ?_
  refine z_putI (pc' := 5) (L' := [(75, some 0, fun _ => (0 : Int32))]) hc rfl rfl rfl sh_75 rfl zft_12_0 rfl (fun h => Bool.noConfusion h) rfl rfl rfl ?_
  refine g_aload_n (pc' := 6)  hc rfl rfl rfl rfl ?_
  refine z_getI (pc' := 9) (v := (I 75 17)) hc rfl rfl rfl sh_75 rfl rfl rfl ?_
  replace h := zws h
  exact g_ireturn hc rfl rfl rfl (fun _ => ⟨rfl, rfl⟩) h
set_option maxRecDepth 4000 in
theorem ok_X12_undo_75 {p q : Nat} {I : pI} {J : pJ} {Q : pQ} {d : Nat} (hd : 1 ≤ d) (h : zwp (f_X12_undo (I 75 50) (I 92) (I 91) (I 75 0)) (fun w => match w with | (r, o0, o1, o2) => Q (.inl (some (.int r))) (zS p q I [(75, some 0, fun _ => o2), (75, some 50, fun _ => o0), (91, none, o1)] J []))) : pm_call M cost zext d 195 [.ref 75] (pm_st 108 (shp p q) I J) Q := by
  obtain ⟨d, rfl⟩ := zd1 hd rfl
  have hc := pm_call_m (M := M) (cost := cost) zext_m d
  refine z_in (L := [(75, some 0, fun _ => (I 75 0)), (75, some 50, fun _ => (I 75 50)), (91, none, (I 91))]) (K := []) (ls := [some (.ref 75), none]) zmt_195 zco_195 rfl rfl (zid_s (zid_s (zid_a zid_n))) zid_n ?_
  delta f_X12_undo at h
  refine g_aload_n (pc' := 1)  hc rfl rfl rfl rfl ?_
  refine g_iconst (pc' := 2) (v := (0 : Int32)) hc rfl zki_0 rfl ?_
  refine z_putI (pc' := 5) (L' := [(75, some 0, fun _ => (0 : Int32)), (75, some 50, fun _ => (I 75 50)), (91, none, (I 91))]) hc rfl rfl rfl sh_75 rfl zft_12_0 rfl (fun h => Bool.noConfusion h) rfl rfl rfl ?_
  refine g_aload_n (pc' := 6)  hc rfl rfl rfl rfl ?_
  refine z_getI (pc' := 9) (v := (I 75 50)) hc rfl rfl rfl sh_75 rfl rfl rfl ?_
  refine g_if_ne (pc' := 12) hc rfl rfl (fun hx => ?_) (fun hx => ?_)
  · replace h := zwp_f h hx
    refine g_aload_n (pc' := 15)  hc rfl rfl rfl rfl ?_
    refine g_dup (pc' := 16)  hc rfl rfl rfl ?_
    refine z_getI (pc' := 19) (v := (I 75 50)) hc rfl rfl rfl sh_75 rfl rfl rfl ?_
    refine g_iconst (pc' := 20) (v := (1 : Int32)) hc rfl zki_1 rfl ?_
    refine g_isub (pc' := 21)  hc rfl rfl ?_
    refine z_putI (pc' := 24) (L' := [(75, some 0, fun _ => (0 : Int32)), (75, some 50, fun _ => (((I 75 50)) - (1 : Int32))), (91, none, (I 91))]) hc rfl rfl rfl sh_75 rfl zft_12_50 rfl (fun h => Bool.noConfusion h) rfl rfl rfl ?_
    refine g_iconst (pc' := 25) (v := (0 : Int32)) hc rfl zki_0 rfl ?_
    refine g_istore_n (pc' := 26) (ls1 := [some (.ref 75), some (.int (0 : Int32))]) hc rfl (zlt rfl) rfl rfl ?_
    refine zjn (G := (fun (y4 : (Nat → Int32)) => ∀ z3 : Option Value, znl z3 = true → pm_ev C_X12_undo (d + 1) (pm_call M cost zext d) cost (false, false) 108 0 0 Q 58 [some (.ref 75), z3] [] 0 0 (zS p q I [(75, some 0, fun _ => (0 : Int32)), (75, some 50, fun _ => (((I 75 50)) - (1 : Int32))), (91, none, y4)] J []))) (zwp_bind h) ?_ (fun h => ?_)
    · rintro y4 h z3 hz3
      refine g_aload_n (pc' := 59)  hc rfl rfl rfl rfl ?_
      refine z_getI (pc' := 62) (v := (((I 75 50)) - (1 : Int32))) hc rfl rfl rfl sh_75 rfl rfl rfl ?_
      replace h := zws h
      exact g_ireturn hc rfl rfl rfl (fun _ => ⟨rfl, rfl⟩) h
    refine zitr_ev (G := (fun (g : Int32 × (Nat → Int32)) => match g with | (x1, x2) => pm_ev C_X12_undo (d + 1) (pm_call M cost zext d) cost (false, false) 108 0 0 Q 26 [some (.ref 75), some (.int x1)] [] 0 0 (zS p q I [(75, some 0, fun _ => (0 : Int32)), (75, some 50, fun _ => (((I 75 50)) - (1 : Int32))), (91, none, x2)] J []))) ?_ zFU ((0 : Int32), (I 91)) h
    rintro ⟨x1, x2⟩ h
    refine g_iload_n (pc' := 27)  hc rfl rfl rfl ?_
    refine g_bipush (pc' := 29) (v := (70 : Int32)) hc rfl zkb_70 rfl ?_
    refine g_icmp_ge (pc' := 32) hc rfl rfl (fun hx => ?_) (fun hx => ?_)
    · replace h := zwp_t h hx
      replace h := zwp_r h
      exact h (some (.int x1)) rfl
    · replace h := zwp_f h hx
      refine g_aload_n (pc' := 33)  hc rfl rfl rfl rfl ?_
      refine z_getR (pc' := 36)  hc rfl rfl rfl sh_75 rfl rfl ?_
      refine g_iload_n (pc' := 37)  hc rfl rfl rfl ?_
      refine g_aload_n (pc' := 38)  hc rfl rfl rfl rfl ?_
      refine z_getR (pc' := 41)  hc rfl rfl rfl sh_75 rfl rfl ?_
      refine g_bipush (pc' := 43) (v := (70 : Int32)) hc rfl zkb_70 rfl ?_
      refine g_aload_n (pc' := 44)  hc rfl rfl rfl rfl ?_
      refine z_getI (pc' := 47) (v := (((I 75 50)) - (1 : Int32))) hc rfl rfl rfl sh_75 rfl rfl rfl ?_
      refine g_imul (pc' := 48)  hc rfl rfl ?_
      refine g_iload_n (pc' := 49)  hc rfl rfl rfl ?_
      refine g_iadd (pc' := 50)  hc rfl rfl ?_
      have hb := (zwp_bnd h).1
      replace h := (zwp_bnd h).2
      refine z_iaload (pc' := 51) (v := (((I 92)) (((70 : Int32) * (((I 75 50)) - (1 : Int32))) + x1).toNatClampNeg)) hc rfl rfl sh_92 hb rfl rfl ?_
      have hb := (zwp_bnd h).1
      replace h := (zwp_bnd h).2
      refine z_iastore (pc' := 52) (g := x2) (L' := [(75, some 0, fun _ => (0 : Int32)), (75, some 50, fun _ => (((I 75 50)) - (1 : Int32))), (91, none, (upd x2 x1.toNatClampNeg (((I 92)) (((70 : Int32) * (((I 75 50)) - (1 : Int32))) + x1).toNatClampNeg)))]) hc rfl rfl sh_91 hb rfl rfl rfl rfl ?_
      refine g_iinc (pc' := 55) (ls1 := [some (.ref 75), some (.int (x1 + (1 : Int32)))]) hc rfl rfl zki_1 (zlt rfl) rfl rfl ?_
      refine g_goto hc rfl ?_
      replace h := zwp_l h
      exact h
  · replace h := zwp_t h hx
    refine g_iconst (pc' := 13) (v := (-1 : Int32)) hc rfl zki_m1 rfl ?_
    replace h := zws h
    exact g_ireturn hc rfl rfl rfl (fun _ => ⟨rfl, rfl⟩) h
set_option maxRecDepth 4000 in
theorem ok_X12_within {p q : Nat} {I : pI} {J : pJ} {a0 : Int32} {a1 : Int32} {a2 : Int32} {Q : pQ} {d : Nat} (hd : 1 ≤ d) (h : zwp (f_X12_within a0 a1 a2) (fun r => Q (.inl (some (.int r))) (zS p q I [] J []))) : pm_call M cost zext d 154 [.int a0, .int a1, .int a2] (pm_st 108 (shp p q) I J) Q := by
  obtain ⟨d, rfl⟩ := zd1 hd rfl
  have hc := pm_call_m (M := M) (cost := cost) zext_m d
  refine z_in (L := []) (K := []) (ls := [some (.int a0), some (.int a1), some (.int a2)]) zmt_154 zco_154 rfl rfl zid_n zid_n ?_
  delta f_X12_within at h
  refine g_iload_n (pc' := 1)  hc rfl rfl rfl ?_
  refine g_iload_n (pc' := 2)  hc rfl rfl rfl ?_
  refine g_icmp_lt (pc' := 5) hc rfl rfl (fun hx => ?_) (fun hx => ?_)
  · replace h := zwp_t h hx
    refine g_iconst (pc' := 15) (v := (0 : Int32)) hc rfl zki_0 rfl ?_
    replace h := zws h
    exact g_ireturn hc rfl rfl rfl (fun _ => ⟨rfl, rfl⟩) h
  · replace h := zwp_f h hx
    refine g_iload_n (pc' := 6)  hc rfl rfl rfl ?_
    refine g_iload_n (pc' := 7)  hc rfl rfl rfl ?_
    refine g_icmp_gt (pc' := 10) hc rfl rfl (fun hx => ?_) (fun hx => ?_)
    · replace h := zwp_t h hx
      refine g_iconst (pc' := 15) (v := (0 : Int32)) hc rfl zki_0 rfl ?_
      replace h := zws h
      exact g_ireturn hc rfl rfl rfl (fun _ => ⟨rfl, rfl⟩) h
    · replace h := zwp_f h hx
      refine g_iconst (pc' := 11) (v := (1 : Int32)) hc rfl zki_1 rfl ?_
      refine g_goto hc rfl ?_
      replace h := zws h
      exact g_ireturn hc rfl rfl rfl (fun _ => ⟨rfl, rfl⟩) h
set_option maxRecDepth 4000 in
theorem ok_X12_heldOnes_75 {p q : Nat} {I : pI} {J : pJ} {Q : pQ} {d : Nat} (hd : 1 ≤ d) (h : zwp (f_X12_heldOnes (I 75 3) (I 91)) (fun r => Q (.inl (some (.int r))) (zS p q I [] J []))) : pm_call M cost zext d 212 [.ref 75] (pm_st 108 (shp p q) I J) Q := by
  obtain ⟨d, rfl⟩ := zd1 hd rfl
  have hc := pm_call_m (M := M) (cost := cost) zext_m d
  refine z_in (L := []) (K := []) (ls := [some (.ref 75), none, none]) zmt_212 zco_212 rfl rfl zid_n zid_n ?_
  delta f_X12_heldOnes at h
  refine g_iconst (pc' := 1) (v := (0 : Int32)) hc rfl zki_0 rfl ?_
  refine g_istore_n (pc' := 2) (ls1 := [some (.ref 75), some (.int (0 : Int32)), none]) hc rfl (zlt rfl) rfl rfl ?_
  refine g_iconst (pc' := 3) (v := (0 : Int32)) hc rfl zki_0 rfl ?_
  refine g_istore_n (pc' := 4) (ls1 := [some (.ref 75), some (.int (0 : Int32)), some (.int (0 : Int32))]) hc rfl (zlt rfl) rfl rfl ?_
  refine zjn (G := (fun (y3 : Int32) => ∀ z4 : Option Value, znl z4 = true → pm_ev C_X12_heldOnes (d + 1) (pm_call M cost zext d) cost (false, false) 108 0 0 Q 40 [some (.ref 75), some (.int y3), z4] [] 0 0 (zS p q I [] J []))) (zwp_bind h) ?_ (fun h => ?_)
  · rintro y3 h z4 hz4
    refine g_iload_n (pc' := 41)  hc rfl rfl rfl ?_
    replace h := zws h
    exact g_ireturn hc rfl rfl rfl (fun _ => ⟨rfl, rfl⟩) h
  refine zitr_ev (G := (fun (g : Int32 × Int32) => match g with | (x1, x2) => pm_ev C_X12_heldOnes (d + 1) (pm_call M cost zext d) cost (false, false) 108 0 0 Q 4 [some (.ref 75), some (.int x1), some (.int x2)] [] 0 0 (zS p q I [] J []))) ?_ zFU ((0 : Int32), (0 : Int32)) h
  rintro ⟨x1, x2⟩ h
  refine g_iload_n (pc' := 5)  hc rfl rfl rfl ?_
  refine g_aload_n (pc' := 6)  hc rfl rfl rfl rfl ?_
  refine z_getI (pc' := 9) (v := (I 75 3)) hc rfl rfl rfl sh_75 rfl rfl rfl ?_
  refine g_icmp_ge (pc' := 12) hc rfl rfl (fun hx => ?_) (fun hx => ?_)
  · replace h := zwp_t h hx
    replace h := zwp_r h
    exact h (some (.int x2)) rfl
  · replace h := zwp_f h hx
    refine g_iload_n (pc' := 13)  hc rfl rfl rfl ?_
    refine g_aload_n (pc' := 14)  hc rfl rfl rfl rfl ?_
    refine z_getR (pc' := 17)  hc rfl rfl rfl sh_75 rfl rfl ?_
    refine g_bipush (pc' := 19) (v := (17 : Int32)) hc rfl zkb_17 rfl ?_
    refine g_iload_n (pc' := 20)  hc rfl rfl rfl ?_
    refine g_iadd (pc' := 21)  hc rfl rfl ?_
    have hb := (zwp_bnd h).1
    replace h := (zwp_bnd h).2
    refine z_iaload (pc' := 22) (v := (((I 91)) ((17 : Int32) + x2).toNatClampNeg)) hc rfl rfl sh_91 hb rfl rfl ?_
    refine zjn (G := (fun (j5 : Int32) => pm_ev C_X12_heldOnes (d + 1) (pm_call M cost zext d) cost (false, false) 108 0 0 Q 32 [some (.ref 75), some (.int x1), some (.int x2)] [.int j5, .int x1] 0 0 (zS p q I [] J []))) (zwp_bind h) ?_ (fun h => ?_)
    · rintro j5 h
      refine g_ior (pc' := 33)  hc rfl rfl ?_
      refine g_istore_n (pc' := 34) (ls1 := [some (.ref 75), some (.int (x1 ||| j5)), some (.int x2)]) hc rfl (zlt rfl) rfl rfl ?_
      refine g_iinc (pc' := 37) (ls1 := [some (.ref 75), some (.int (x1 ||| j5)), some (.int (x2 + (1 : Int32)))]) hc rfl rfl zki_1 (zlt rfl) rfl rfl ?_
      refine g_goto hc rfl ?_
      replace h := zwp_l h
      exact h
    refine g_if_le (pc' := 25) hc rfl rfl (fun hx => ?_) (fun hx => ?_)
    · replace h := zwp_t h hx
      refine g_iconst (pc' := 32) (v := (0 : Int32)) hc rfl zki_0 rfl ?_
      replace h := zws h
      exact h
    · replace h := zwp_f h hx
      refine g_iconst (pc' := 26) (v := (1 : Int32)) hc rfl zki_1 rfl ?_
      refine g_iload_n (pc' := 27)  hc rfl rfl rfl ?_
      refine g_ishl (pc' := 28)  hc rfl rfl ?_
      refine g_goto hc rfl ?_
      replace h := zws h
      exact h
set_option maxRecDepth 4000 in
theorem ok_X12_sumOf_75 {p q : Nat} {I : pI} {J : pJ} {a1 : Int32} {a2 : Int32} {a3 : Int32} {Q : pQ} {d : Nat} (hd : 1 ≤ d) (h : zwp (f_X12_sumOf a1 a2 a3 (I 91)) (fun r => Q (.inl (some (.int r))) (zS p q I [] J []))) : pm_call M cost zext d 211 [.ref 75, .int a1, .int a2, .int a3] (pm_st 108 (shp p q) I J) Q := by
  obtain ⟨d, rfl⟩ := zd1 hd rfl
  have hc := pm_call_m (M := M) (cost := cost) zext_m d
  refine z_in (L := []) (K := []) (ls := [some (.ref 75), some (.int a1), some (.int a2), some (.int a3), none, none]) zmt_211 zco_211 rfl rfl zid_n zid_n ?_
  delta f_X12_sumOf at h
  refine g_iconst (pc' := 1) (v := (0 : Int32)) hc rfl zki_0 rfl ?_
  refine g_istore (pc' := 3) (ls1 := [some (.ref 75), some (.int a1), some (.int a2), some (.int a3), some (.int (0 : Int32)), none]) hc rfl (zlt rfl) rfl rfl ?_
  refine g_iconst (pc' := 4) (v := (0 : Int32)) hc rfl zki_0 rfl ?_
  refine g_istore (pc' := 6) (ls1 := [some (.ref 75), some (.int a1), some (.int a2), some (.int a3), some (.int (0 : Int32)), some (.int (0 : Int32))]) hc rfl (zlt rfl) rfl rfl ?_
  refine zjn (G := (fun (y3 : Int32) => ∀ z4 : Option Value, znl z4 = true → pm_ev C_X12_sumOf (d + 1) (pm_call M cost zext d) cost (false, false) 108 0 0 Q 34 [some (.ref 75), some (.int a1), some (.int a2), some (.int a3), some (.int y3), z4] [] 0 0 (zS p q I [] J []))) (zwp_bind h) ?_ (fun h => ?_)
  · rintro y3 h z4 hz4
    refine g_iload (pc' := 36)  hc rfl rfl rfl ?_
    replace h := zws h
    exact g_ireturn hc rfl rfl rfl (fun _ => ⟨rfl, rfl⟩) h
  refine zitr_ev (G := (fun (g : Int32 × Int32) => match g with | (x1, x2) => pm_ev C_X12_sumOf (d + 1) (pm_call M cost zext d) cost (false, false) 108 0 0 Q 6 [some (.ref 75), some (.int a1), some (.int a2), some (.int a3), some (.int x1), some (.int x2)] [] 0 0 (zS p q I [] J []))) ?_ zFU ((0 : Int32), (0 : Int32)) h
  rintro ⟨x1, x2⟩ h
  refine g_iload (pc' := 8)  hc rfl rfl rfl ?_
  refine g_iload_n (pc' := 9)  hc rfl rfl rfl ?_
  refine g_icmp_ge (pc' := 12) hc rfl rfl (fun hx => ?_) (fun hx => ?_)
  · replace h := zwp_t h hx
    replace h := zwp_r h
    exact h (some (.int x2)) rfl
  · replace h := zwp_f h hx
    refine g_iload (pc' := 14)  hc rfl rfl rfl ?_
    refine g_aload_n (pc' := 15)  hc rfl rfl rfl rfl ?_
    refine z_getR (pc' := 18)  hc rfl rfl rfl sh_75 rfl rfl ?_
    refine g_iload_n (pc' := 19)  hc rfl rfl rfl ?_
    refine g_iload_n (pc' := 20)  hc rfl rfl rfl ?_
    refine g_iadd (pc' := 21)  hc rfl rfl ?_
    refine g_iload (pc' := 23)  hc rfl rfl rfl ?_
    refine g_iadd (pc' := 24)  hc rfl rfl ?_
    have hb := (zwp_bnd h).1
    replace h := (zwp_bnd h).2
    refine z_iaload (pc' := 25) (v := (((I 91)) ((a1 + a2) + x2).toNatClampNeg)) hc rfl rfl sh_91 hb rfl rfl ?_
    refine g_iadd (pc' := 26)  hc rfl rfl ?_
    refine g_istore (pc' := 28) (ls1 := [some (.ref 75), some (.int a1), some (.int a2), some (.int a3), some (.int (x1 + (((I 91)) ((a1 + a2) + x2).toNatClampNeg))), some (.int x2)]) hc rfl (zlt rfl) rfl rfl ?_
    refine g_iinc (pc' := 31) (ls1 := [some (.ref 75), some (.int a1), some (.int a2), some (.int a3), some (.int (x1 + (((I 91)) ((a1 + a2) + x2).toNatClampNeg))), some (.int (x2 + (1 : Int32)))]) hc rfl rfl zki_1 (zlt rfl) rfl rfl ?_
    refine g_goto hc rfl ?_
    replace h := zwp_l h
    exact h
set_option maxRecDepth 4000 in
theorem ok_X12_beside_75 {p q : Nat} {I : pI} {J : pJ} {a1 : Int32} {a2 : Int32} {Q : pQ} {d : Nat} (hd : 1 ≤ d) (h : zwp (f_X12_beside a1 a2 (I 75 2) (I 75 1)) (fun r => Q (.inl (some (.int r))) (zS p q I [] J []))) : pm_call M cost zext d 207 [.ref 75, .int a1, .int a2] (pm_st 108 (shp p q) I J) Q := by
  obtain ⟨d, rfl⟩ := zd1 hd rfl
  have hc := pm_call_m (M := M) (cost := cost) zext_m d
  refine z_in (L := []) (K := []) (ls := [some (.ref 75), some (.int a1), some (.int a2)]) zmt_207 zco_207 rfl rfl zid_n zid_n ?_
  delta f_X12_beside at h
  refine g_iload_n (pc' := 1)  hc rfl rfl rfl ?_
  refine g_iconst (pc' := 2) (v := (1 : Int32)) hc rfl zki_1 rfl ?_
  refine g_icmp_ne (pc' := 5) hc rfl rfl (fun hx => ?_) (fun hx => ?_)
  · replace h := zwp_f h hx
    refine g_iload_n (pc' := 25)  hc rfl rfl rfl ?_
    refine g_iconst (pc' := 26) (v := (2 : Int32)) hc rfl zki_2 rfl ?_
    refine g_icmp_ne (pc' := 29) hc rfl rfl (fun hx => ?_) (fun hx => ?_)
    · replace h := zwp_f h hx
      refine g_iload_n (pc' := 53)  hc rfl rfl rfl ?_
      refine g_iconst (pc' := 54) (v := (3 : Int32)) hc rfl zki_3 rfl ?_
      refine g_icmp_ne (pc' := 57) hc rfl rfl (fun hx => ?_) (fun hx => ?_)
      · replace h := zwp_f h hx
        refine g_iload_n (pc' := 84)  hc rfl rfl rfl ?_
        refine g_iconst (pc' := 85) (v := (4 : Int32)) hc rfl zki_4 rfl ?_
        refine g_icmp_ne (pc' := 88) hc rfl rfl (fun hx => ?_) (fun hx => ?_)
        · replace h := zwp_f h hx
          refine g_iload_n (pc' := 108)  hc rfl rfl rfl ?_
          replace h := zws h
          exact g_ireturn hc rfl rfl rfl (fun _ => ⟨rfl, rfl⟩) h
        · replace h := zwp_t h hx
          refine g_iload_n (pc' := 89)  hc rfl rfl rfl ?_
          refine g_aload_n (pc' := 90)  hc rfl rfl rfl rfl ?_
          refine z_getI (pc' := 93) (v := (I 75 1)) hc rfl rfl rfl sh_75 rfl rfl rfl ?_
          have hz := (zwp_nz h).1
          replace h := (zwp_nz h).2
          refine g_irem (pc' := 94)  hc rfl hz rfl ?_
          refine g_if_le (pc' := 97) hc rfl rfl (fun hx => ?_) (fun hx => ?_)
          · replace h := zwp_t h hx
            refine g_iconst (pc' := 104) (v := (-1 : Int32)) hc rfl zki_m1 rfl ?_
            refine g_goto hc rfl ?_
            replace h := zws h
            exact g_ireturn hc rfl rfl rfl (fun _ => ⟨rfl, rfl⟩) h
          · replace h := zwp_f h hx
            refine g_iload_n (pc' := 98)  hc rfl rfl rfl ?_
            refine g_iconst (pc' := 99) (v := (1 : Int32)) hc rfl zki_1 rfl ?_
            refine g_isub (pc' := 100)  hc rfl rfl ?_
            refine g_goto hc rfl ?_
            replace h := zws h
            exact g_ireturn hc rfl rfl rfl (fun _ => ⟨rfl, rfl⟩) h
      · replace h := zwp_t h hx
        refine g_iload_n (pc' := 58)  hc rfl rfl rfl ?_
        refine g_aload_n (pc' := 59)  hc rfl rfl rfl rfl ?_
        refine z_getI (pc' := 62) (v := (I 75 1)) hc rfl rfl rfl sh_75 rfl rfl rfl ?_
        have hz := (zwp_nz h).1
        replace h := (zwp_nz h).2
        refine g_idiv (pc' := 63)  hc rfl hz rfl ?_
        refine g_iconst (pc' := 64) (v := (1 : Int32)) hc rfl zki_1 rfl ?_
        refine g_iadd (pc' := 65)  hc rfl rfl ?_
        refine g_aload_n (pc' := 66)  hc rfl rfl rfl rfl ?_
        refine z_getI (pc' := 69) (v := (I 75 2)) hc rfl rfl rfl sh_75 rfl rfl rfl ?_
        refine g_icmp_ge (pc' := 72) hc rfl rfl (fun hx => ?_) (fun hx => ?_)
        · replace h := zwp_t h hx
          refine g_iconst (pc' := 82) (v := (-1 : Int32)) hc rfl zki_m1 rfl ?_
          replace h := zws h
          exact g_ireturn hc rfl rfl rfl (fun _ => ⟨rfl, rfl⟩) h
        · replace h := zwp_f h hx
          refine g_iload_n (pc' := 73)  hc rfl rfl rfl ?_
          refine g_aload_n (pc' := 74)  hc rfl rfl rfl rfl ?_
          refine z_getI (pc' := 77) (v := (I 75 1)) hc rfl rfl rfl sh_75 rfl rfl rfl ?_
          refine g_iadd (pc' := 78)  hc rfl rfl ?_
          refine g_goto hc rfl ?_
          replace h := zws h
          exact g_ireturn hc rfl rfl rfl (fun _ => ⟨rfl, rfl⟩) h
    · replace h := zwp_t h hx
      refine g_iload_n (pc' := 30)  hc rfl rfl rfl ?_
      refine g_aload_n (pc' := 31)  hc rfl rfl rfl rfl ?_
      refine z_getI (pc' := 34) (v := (I 75 1)) hc rfl rfl rfl sh_75 rfl rfl rfl ?_
      have hz := (zwp_nz h).1
      replace h := (zwp_nz h).2
      refine g_irem (pc' := 35)  hc rfl hz rfl ?_
      refine g_iconst (pc' := 36) (v := (1 : Int32)) hc rfl zki_1 rfl ?_
      refine g_iadd (pc' := 37)  hc rfl rfl ?_
      refine g_aload_n (pc' := 38)  hc rfl rfl rfl rfl ?_
      refine z_getI (pc' := 41) (v := (I 75 1)) hc rfl rfl rfl sh_75 rfl rfl rfl ?_
      refine g_icmp_ge (pc' := 44) hc rfl rfl (fun hx => ?_) (fun hx => ?_)
      · replace h := zwp_t h hx
        refine g_iconst (pc' := 51) (v := (-1 : Int32)) hc rfl zki_m1 rfl ?_
        replace h := zws h
        exact g_ireturn hc rfl rfl rfl (fun _ => ⟨rfl, rfl⟩) h
      · replace h := zwp_f h hx
        refine g_iload_n (pc' := 45)  hc rfl rfl rfl ?_
        refine g_iconst (pc' := 46) (v := (1 : Int32)) hc rfl zki_1 rfl ?_
        refine g_iadd (pc' := 47)  hc rfl rfl ?_
        refine g_goto hc rfl ?_
        replace h := zws h
        exact g_ireturn hc rfl rfl rfl (fun _ => ⟨rfl, rfl⟩) h
  · replace h := zwp_t h hx
    refine g_iload_n (pc' := 6)  hc rfl rfl rfl ?_
    refine g_aload_n (pc' := 7)  hc rfl rfl rfl rfl ?_
    refine z_getI (pc' := 10) (v := (I 75 1)) hc rfl rfl rfl sh_75 rfl rfl rfl ?_
    refine g_icmp_lt (pc' := 13) hc rfl rfl (fun hx => ?_) (fun hx => ?_)
    · replace h := zwp_t h hx
      refine g_iconst (pc' := 23) (v := (-1 : Int32)) hc rfl zki_m1 rfl ?_
      replace h := zws h
      exact g_ireturn hc rfl rfl rfl (fun _ => ⟨rfl, rfl⟩) h
    · replace h := zwp_f h hx
      refine g_iload_n (pc' := 14)  hc rfl rfl rfl ?_
      refine g_aload_n (pc' := 15)  hc rfl rfl rfl rfl ?_
      refine z_getI (pc' := 18) (v := (I 75 1)) hc rfl rfl rfl sh_75 rfl rfl rfl ?_
      refine g_isub (pc' := 19)  hc rfl rfl ?_
      refine g_goto hc rfl ?_
      replace h := zws h
      exact g_ireturn hc rfl rfl rfl (fun _ => ⟨rfl, rfl⟩) h
set_option maxRecDepth 4000 in
theorem ok_X12_laysFar_75 {p q : Nat} {I : pI} {J : pJ} {a1 : Int32} {Q : pQ} {d : Nat} (hd : 2 ≤ d) (h : zwp (f_X12_laysFar a1 (I 95) (I 96) (I 91) (I 75 2) (I 75 1)) (fun w => match w with | (o0, o1) => Q (.inl none) (zS p q I [(95, none, o0), (96, none, o1)] J []))) : pm_call M cost zext d 213 [.ref 75, .int a1] (pm_st 108 (shp p q) I J) Q := by
  obtain ⟨d, rfl⟩ := zd1 hd rfl
  have hc := pm_call_m (M := M) (cost := cost) zext_m d
  refine z_in (L := [(95, none, (I 95)), (96, none, (I 96))]) (K := []) (ls := [some (.ref 75), some (.int a1), none, none, none, none, none]) zmt_213 zco_213 rfl rfl (zid_a (zid_a zid_n)) zid_n ?_
  delta f_X12_laysFar at h
  refine g_iconst (pc' := 1) (v := (0 : Int32)) hc rfl zki_0 rfl ?_
  refine g_istore_n (pc' := 2) (ls1 := [some (.ref 75), some (.int a1), some (.int (0 : Int32)), none, none, none, none]) hc rfl (zlt rfl) rfl rfl ?_
  refine zjn (G := (fun (y4 : (Nat → Int32)) => ∀ z3 : Option Value, znl z3 = true → pm_ev C_X12_laysFar (d + 1) (pm_call M cost zext d) cost (false, false) 108 0 0 Q 23 [some (.ref 75), some (.int a1), z3, none, none, none, none] [] 0 0 (zS p q I [(95, none, y4), (96, none, (I 96))] J []))) (zwp_bind h) ?_ (fun h => ?_)
  · rintro y4 h z3 hz3
    refine g_aload_n (pc' := 24)  hc rfl rfl rfl rfl ?_
    refine z_getR (pc' := 27)  hc rfl rfl rfl sh_75 rfl rfl ?_
    refine g_iload_n (pc' := 28)  hc rfl rfl rfl ?_
    refine g_iconst (pc' := 29) (v := (0 : Int32)) hc rfl zki_0 rfl ?_
    have hb := (zwp_bnd h).1
    replace h := (zwp_bnd h).2
    refine z_iastore (pc' := 30) (g := y4) (L' := [(95, none, (upd y4 a1.toNatClampNeg (0 : Int32))), (96, none, (I 96))]) hc rfl rfl sh_95 hb rfl rfl rfl rfl ?_
    refine g_iconst (pc' := 31) (v := (0 : Int32)) hc rfl zki_0 rfl ?_
    refine g_istore_n (pc' := 32) (ls1 := [some (.ref 75), some (.int a1), some (.int (0 : Int32)), none, none, none, none]) hc rfl (zlt rfl) rfl rfl ?_
    refine g_iconst (pc' := 33) (v := (0 : Int32)) hc rfl zki_0 rfl ?_
    refine g_istore_n (pc' := 34) (ls1 := [some (.ref 75), some (.int a1), some (.int (0 : Int32)), some (.int (0 : Int32)), none, none, none]) hc rfl (zlt rfl) rfl rfl ?_
    refine g_aload_n (pc' := 35)  hc rfl rfl rfl rfl ?_
    refine z_getR (pc' := 38)  hc rfl rfl rfl sh_75 rfl rfl ?_
    refine g_bipush (pc' := 40) (v := (33 : Int32)) hc rfl zkb_33 rfl ?_
    refine g_iload_n (pc' := 41)  hc rfl rfl rfl ?_
    refine g_iadd (pc' := 42)  hc rfl rfl ?_
    have hb := (zwp_bnd h).1
    replace h := (zwp_bnd h).2
    refine z_iaload (pc' := 43) (v := (((I 91)) ((33 : Int32) + a1).toNatClampNeg)) hc rfl rfl sh_91 hb rfl rfl ?_
    refine zjn (G := (fun (g : Int32 × (Nat → Int32)) => match g with | (j5, j6) => pm_ev C_X12_laysFar (d + 1) (pm_call M cost zext d) cost (false, false) 108 0 0 Q 55 [some (.ref 75), some (.int a1), some (.int (0 : Int32)), some (.int j5), none, none, none] [] 0 0 (zS p q I [(95, none, (upd y4 a1.toNatClampNeg (0 : Int32))), (96, none, j6)] J []))) (zwp_bind h) ?_ (fun h => ?_)
    · rintro ⟨j5, j6⟩ h
      refine zjn (G := (fun (g : (Nat → Int32) × (Nat → Int32)) => match g with | (y19, y20) => ∀ z14 : Option Value, znl z14 = true → ∀ z15 : Option Value, znl z15 = true → ∀ z16 : Option Value, znl z16 = true → ∀ z17 : Option Value, znl z17 = true → ∀ z18 : Option Value, znl z18 = true → pm_ev C_X12_laysFar (d + 1) (pm_call M cost zext d) cost (false, false) 108 0 0 Q 165 [some (.ref 75), some (.int a1), z14, z15, z16, z17, z18] [] 0 0 (zS p q I [(95, none, y19), (96, none, y20)] J []))) (zwp_bind h) ?_ (fun h => ?_)
      · rintro ⟨y19, y20⟩ h z14 hz14 z15 hz15 z16 hz16 z17 hz17 z18 hz18
        replace h := zws h
        exact g_return hc rfl rfl (fun _ => ⟨rfl, rfl⟩) h
      refine zitr_ev (G := (fun (g : Int32 × Int32 × (Nat → Int32) × (Nat → Int32)) => match g with | (x7, x8, x12, x13) => ∀ z9 : Option Value, znl z9 = true → ∀ z10 : Option Value, znl z10 = true → ∀ z11 : Option Value, znl z11 = true → pm_ev C_X12_laysFar (d + 1) (pm_call M cost zext d) cost (false, false) 108 0 0 Q 55 [some (.ref 75), some (.int a1), some (.int x7), some (.int x8), z9, z10, z11] [] 0 0 (zS p q I [(95, none, x12), (96, none, x13)] J []))) ?_ zFU ((0 : Int32), j5, (upd y4 a1.toNatClampNeg (0 : Int32)), j6) h none rfl none rfl none rfl
      rintro ⟨x7, x8, x12, x13⟩ h z9 hz9 z10 hz10 z11 hz11
      refine g_iload_n (pc' := 56)  hc rfl rfl rfl ?_
      refine g_iload_n (pc' := 57)  hc rfl rfl rfl ?_
      refine g_icmp_ge (pc' := 60) hc rfl rfl (fun hx => ?_) (fun hx => ?_)
      · replace h := zwp_t h hx
        replace h := zwp_r h
        exact h (some (.int x7)) rfl (some (.int x8)) rfl z9 hz9 z10 hz10 z11 hz11
      · replace h := zwp_f h hx
        refine g_aload_n (pc' := 61)  hc rfl rfl rfl rfl ?_
        refine z_getR (pc' := 64)  hc rfl rfl rfl sh_75 rfl rfl ?_
        refine g_iload_n (pc' := 65)  hc rfl rfl rfl ?_
        have hb := (zwp_bnd h).1
        replace h := (zwp_bnd h).2
        refine z_iaload (pc' := 66) (v := (x13 x7.toNatClampNeg)) hc rfl rfl sh_96 hb rfl rfl ?_
        refine g_istore (pc' := 68) (ls1 := [some (.ref 75), some (.int a1), some (.int x7), some (.int x8), some (.int (x13 x7.toNatClampNeg)), z10, z11]) hc rfl (zlt rfl) rfl rfl ?_
        refine g_iinc (pc' := 71) (ls1 := [some (.ref 75), some (.int a1), some (.int (x7 + (1 : Int32))), some (.int x8), some (.int (x13 x7.toNatClampNeg)), z10, z11]) hc rfl rfl zki_1 (zlt rfl) rfl rfl ?_
        refine g_iconst (pc' := 72) (v := (1 : Int32)) hc rfl zki_1 rfl ?_
        refine g_istore (pc' := 74) (ls1 := [some (.ref 75), some (.int a1), some (.int (x7 + (1 : Int32))), some (.int x8), some (.int (x13 x7.toNatClampNeg)), some (.int (1 : Int32)), z11]) hc rfl (zlt rfl) rfl rfl ?_
        refine zjn (G := (fun (g : Int32 × (Nat → Int32) × (Nat → Int32)) => match g with | (y26, y29, y30) => ∀ z27 : Option Value, znl z27 = true → ∀ z28 : Option Value, znl z28 = true → pm_ev C_X12_laysFar (d + 1) (pm_call M cost zext d) cost (false, false) 108 0 0 Q 162 [some (.ref 75), some (.int a1), some (.int (x7 + (1 : Int32))), some (.int y26), some (.int (x13 x7.toNatClampNeg)), z27, z28] [] 0 0 (zS p q I [(95, none, y29), (96, none, y30)] J []))) (zwp_bind h) ?_ (fun h => ?_)
        · rintro ⟨y26, y29, y30⟩ h z27 hz27 z28 hz28
          refine g_goto hc rfl ?_
          replace h := zwp_l h
          exact h (some (.int (x13 x7.toNatClampNeg))) rfl z27 hz27 z28 hz28
        refine zitr_ev (G := (fun (g : Int32 × Int32 × (Nat → Int32) × (Nat → Int32)) => match g with | (x21, x22, x24, x25) => ∀ z23 : Option Value, znl z23 = true → pm_ev C_X12_laysFar (d + 1) (pm_call M cost zext d) cost (false, false) 108 0 0 Q 74 [some (.ref 75), some (.int a1), some (.int (x7 + (1 : Int32))), some (.int x21), some (.int (x13 x7.toNatClampNeg)), some (.int x22), z23] [] 0 0 (zS p q I [(95, none, x24), (96, none, x25)] J []))) ?_ zFU (x8, (1 : Int32), x12, x13) h z11 hz11
        rintro ⟨x21, x22, x24, x25⟩ h z23 hz23
        refine g_iload (pc' := 76)  hc rfl rfl rfl ?_
        refine g_iconst (pc' := 77) (v := (5 : Int32)) hc rfl zki_5 rfl ?_
        refine g_icmp_ge (pc' := 80) hc rfl rfl (fun hx => ?_) (fun hx => ?_)
        · replace h := zwp_t h hx
          replace h := zwp_r h
          exact h (some (.int x22)) rfl z23 hz23
        · replace h := zwp_f h hx
          refine g_aload_n (pc' := 81)  hc rfl rfl rfl rfl ?_
          refine g_iload (pc' := 83)  hc rfl rfl rfl ?_
          refine g_iload (pc' := 85)  hc rfl rfl rfl ?_
          refine z_virt (as := [.int (x13 x7.toNatClampNeg), .int x22]) (a := 75) (r := []) hc rfl rfl rfl rfl sh_75 rfl zco_207 rfl rfl rfl ?_
          refine ok_X12_beside_75 (zdp hd rfl) (zwp_mono (zwp_bind h) ?_)
          rintro r31 h
          refine z_po (pc' := 88) (st' := [.int r31]) (v := (some (.int r31))) (L' := [(95, none, x24), (96, none, x25)]) (K' := []) zco_207 rfl rfl rfl rfl rfl rfl rfl rfl ?_
          refine g_istore (pc' := 90) (ls1 := [some (.ref 75), some (.int a1), some (.int (x7 + (1 : Int32))), some (.int x21), some (.int (x13 x7.toNatClampNeg)), some (.int x22), some (.int r31)]) hc rfl (zlt rfl) rfl rfl ?_
          refine g_iload (pc' := 92)  hc rfl rfl rfl ?_
          refine g_iconst (pc' := 93) (v := (-1 : Int32)) hc rfl zki_m1 rfl ?_
          refine g_icmp_eq (pc' := 96) hc rfl rfl (fun hx => ?_) (fun hx => ?_)
          · replace h := zwp_t h hx
            refine g_iinc (pc' := 159) (ls1 := [some (.ref 75), some (.int a1), some (.int (x7 + (1 : Int32))), some (.int x21), some (.int (x13 x7.toNatClampNeg)), some (.int (x22 + (1 : Int32))), some (.int r31)]) hc rfl rfl zki_1 (zlt rfl) rfl rfl ?_
            refine g_goto hc rfl ?_
            replace h := zwp_l h
            exact h (some (.int r31)) rfl
          · replace h := zwp_f h hx
            refine g_aload_n (pc' := 97)  hc rfl rfl rfl rfl ?_
            refine z_getR (pc' := 100)  hc rfl rfl rfl sh_75 rfl rfl ?_
            refine g_iload (pc' := 102)  hc rfl rfl rfl ?_
            have hb := (zwp_bnd h).1
            replace h := (zwp_bnd h).2
            refine z_iaload (pc' := 103) (v := (x24 r31.toNatClampNeg)) hc rfl rfl sh_95 hb rfl rfl ?_
            refine g_sipush (pc' := 106) (v := (9999 : Int32)) hc rfl zks_9999 rfl ?_
            refine g_icmp_ge (pc' := 109) hc rfl rfl (fun hx => ?_) (fun hx => ?_)
            · replace h := zwp_t h hx
              refine g_aload_n (pc' := 113)  hc rfl rfl rfl rfl ?_
              refine z_getR (pc' := 116)  hc rfl rfl rfl sh_75 rfl rfl ?_
              refine g_iload (pc' := 118)  hc rfl rfl rfl ?_
              refine g_aload_n (pc' := 119)  hc rfl rfl rfl rfl ?_
              refine z_getR (pc' := 122)  hc rfl rfl rfl sh_75 rfl rfl ?_
              refine g_iload (pc' := 124)  hc rfl rfl rfl ?_
              have hb := (zwp_bnd h).1
              replace h := (zwp_bnd h).2
              refine z_iaload (pc' := 125) (v := (x24 (x13 x7.toNatClampNeg).toNatClampNeg)) hc rfl rfl sh_95 hb rfl rfl ?_
              refine g_iconst (pc' := 126) (v := (1 : Int32)) hc rfl zki_1 rfl ?_
              refine g_iadd (pc' := 127)  hc rfl rfl ?_
              have hb := (zwp_bnd h).1
              replace h := (zwp_bnd h).2
              refine z_iastore (pc' := 128) (g := x24) (L' := [(95, none, (upd x24 r31.toNatClampNeg ((x24 (x13 x7.toNatClampNeg).toNatClampNeg) + (1 : Int32)))), (96, none, x25)]) hc rfl rfl sh_95 hb rfl rfl rfl rfl ?_
              refine g_aload_n (pc' := 129)  hc rfl rfl rfl rfl ?_
              refine z_getR (pc' := 132)  hc rfl rfl rfl sh_75 rfl rfl ?_
              refine g_bipush (pc' := 134) (v := (33 : Int32)) hc rfl zkb_33 rfl ?_
              refine g_iload (pc' := 136)  hc rfl rfl rfl ?_
              refine g_iadd (pc' := 137)  hc rfl rfl ?_
              have hb := (zwp_bnd h).1
              replace h := (zwp_bnd h).2
              refine z_iaload (pc' := 138) (v := (((I 91)) ((33 : Int32) + r31).toNatClampNeg)) hc rfl rfl sh_91 hb rfl rfl ?_
              refine g_iconst (pc' := 139) (v := (1 : Int32)) hc rfl zki_1 rfl ?_
              refine g_icmp_ne (pc' := 142) hc rfl rfl (fun hx => ?_) (fun hx => ?_)
              · replace h := zwp_f h hx
                refine g_aload_n (pc' := 146)  hc rfl rfl rfl rfl ?_
                refine z_getR (pc' := 149)  hc rfl rfl rfl sh_75 rfl rfl ?_
                refine g_iload_n (pc' := 150)  hc rfl rfl rfl ?_
                refine g_iload (pc' := 152)  hc rfl rfl rfl ?_
                have hb := (zwp_bnd h).1
                replace h := (zwp_bnd h).2
                refine z_iastore (pc' := 153) (g := x25) (L' := [(95, none, (upd x24 r31.toNatClampNeg ((x24 (x13 x7.toNatClampNeg).toNatClampNeg) + (1 : Int32)))), (96, none, (upd x25 x21.toNatClampNeg r31))]) hc rfl rfl sh_96 hb rfl rfl rfl rfl ?_
                refine g_iinc (pc' := 156) (ls1 := [some (.ref 75), some (.int a1), some (.int (x7 + (1 : Int32))), some (.int (x21 + (1 : Int32))), some (.int (x13 x7.toNatClampNeg)), some (.int x22), some (.int r31)]) hc rfl rfl zki_1 (zlt rfl) rfl rfl ?_
                refine g_iinc (pc' := 159) (ls1 := [some (.ref 75), some (.int a1), some (.int (x7 + (1 : Int32))), some (.int (x21 + (1 : Int32))), some (.int (x13 x7.toNatClampNeg)), some (.int (x22 + (1 : Int32))), some (.int r31)]) hc rfl rfl zki_1 (zlt rfl) rfl rfl ?_
                refine g_goto hc rfl ?_
                replace h := zwp_l h
                exact h (some (.int r31)) rfl
              · replace h := zwp_t h hx
                refine g_goto hc rfl ?_
                refine g_iinc (pc' := 159) (ls1 := [some (.ref 75), some (.int a1), some (.int (x7 + (1 : Int32))), some (.int x21), some (.int (x13 x7.toNatClampNeg)), some (.int (x22 + (1 : Int32))), some (.int r31)]) hc rfl rfl zki_1 (zlt rfl) rfl rfl ?_
                refine g_goto hc rfl ?_
                replace h := zwp_l h
                exact h (some (.int r31)) rfl
            · replace h := zwp_f h hx
              refine g_goto hc rfl ?_
              refine g_iinc (pc' := 159) (ls1 := [some (.ref 75), some (.int a1), some (.int (x7 + (1 : Int32))), some (.int x21), some (.int (x13 x7.toNatClampNeg)), some (.int (x22 + (1 : Int32))), some (.int r31)]) hc rfl rfl zki_1 (zlt rfl) rfl rfl ?_
              refine g_goto hc rfl ?_
              replace h := zwp_l h
              exact h (some (.int r31)) rfl
    refine g_if_ne (pc' := 46) hc rfl rfl (fun hx => ?_) (fun hx => ?_)
    · replace h := zwp_f h hx
      replace h := zws h
      exact h
    · replace h := zwp_t h hx
      refine g_aload_n (pc' := 47)  hc rfl rfl rfl rfl ?_
      refine z_getR (pc' := 50)  hc rfl rfl rfl sh_75 rfl rfl ?_
      refine g_iconst (pc' := 51) (v := (0 : Int32)) hc rfl zki_0 rfl ?_
      refine g_iload_n (pc' := 52)  hc rfl rfl rfl ?_
      refine z_iastore (pc' := 53) (g := (I 96)) (L' := [(95, none, (upd y4 a1.toNatClampNeg (0 : Int32))), (96, none, (upd ((I 96)) 0 a1))]) hc rfl rfl sh_96 (by decide) rfl rfl rfl rfl ?_
      refine g_iconst (pc' := 54) (v := (1 : Int32)) hc rfl zki_1 rfl ?_
      refine g_istore_n (pc' := 55) (ls1 := [some (.ref 75), some (.int a1), some (.int (0 : Int32)), some (.int (1 : Int32)), none, none, none]) hc rfl (zlt rfl) rfl rfl ?_
      replace h := zws h
      exact h
  refine zitr_ev (G := (fun (g : Int32 × (Nat → Int32)) => match g with | (x1, x2) => pm_ev C_X12_laysFar (d + 1) (pm_call M cost zext d) cost (false, false) 108 0 0 Q 2 [some (.ref 75), some (.int a1), some (.int x1), none, none, none, none] [] 0 0 (zS p q I [(95, none, x2), (96, none, (I 96))] J []))) ?_ zFU ((0 : Int32), (I 95)) h
  rintro ⟨x1, x2⟩ h
  refine g_iload_n (pc' := 3)  hc rfl rfl rfl ?_
  refine g_bipush (pc' := 5) (v := (36 : Int32)) hc rfl zkb_36 rfl ?_
  refine g_icmp_ge (pc' := 8) hc rfl rfl (fun hx => ?_) (fun hx => ?_)
  · replace h := zwp_t h hx
    replace h := zwp_r h
    exact h (some (.int x1)) rfl
  · replace h := zwp_f h hx
    refine g_aload_n (pc' := 9)  hc rfl rfl rfl rfl ?_
    refine z_getR (pc' := 12)  hc rfl rfl rfl sh_75 rfl rfl ?_
    refine g_iload_n (pc' := 13)  hc rfl rfl rfl ?_
    refine g_sipush (pc' := 16) (v := (9999 : Int32)) hc rfl zks_9999 rfl ?_
    have hb := (zwp_bnd h).1
    replace h := (zwp_bnd h).2
    refine z_iastore (pc' := 17) (g := x2) (L' := [(95, none, (upd x2 x1.toNatClampNeg (9999 : Int32))), (96, none, (I 96))]) hc rfl rfl sh_95 hb rfl rfl rfl rfl ?_
    refine g_iinc (pc' := 20) (ls1 := [some (.ref 75), some (.int a1), some (.int (x1 + (1 : Int32))), none, none, none, none]) hc rfl rfl zki_1 (zlt rfl) rfl rfl ?_
    refine g_goto hc rfl ?_
    replace h := zwp_l h
    exact h
set_option maxRecDepth 4000 in
theorem ok_X12_parts_75 {p q : Nat} {I : pI} {J : pJ} {Q : pQ} {d : Nat} (hd : 3 ≤ d) (h : zwp (f_X12_parts (I 95) (I 96) (I 91) (I 75 2) (I 75 1)) (fun w => match w with | (r, o0, o1) => Q (.inl (some (.int r))) (zS p q I [(95, none, o0), (96, none, o1)] J []))) : pm_call M cost zext d 214 [.ref 75] (pm_st 108 (shp p q) I J) Q := by
  obtain ⟨d, rfl⟩ := zd1 hd rfl
  have hc := pm_call_m (M := M) (cost := cost) zext_m d
  refine z_in (L := [(95, none, (I 95)), (96, none, (I 96))]) (K := []) (ls := [some (.ref 75), none, none, none, none]) zmt_214 zco_214 rfl rfl (zid_a (zid_a zid_n)) zid_n ?_
  delta f_X12_parts at h
  refine g_iconst (pc' := 1) (v := (0 : Int32)) hc rfl zki_0 rfl ?_
  refine g_istore_n (pc' := 2) (ls1 := [some (.ref 75), some (.int (0 : Int32)), none, none, none]) hc rfl (zlt rfl) rfl rfl ?_
  refine g_iconst (pc' := 3) (v := (0 : Int32)) hc rfl zki_0 rfl ?_
  refine g_istore_n (pc' := 4) (ls1 := [some (.ref 75), some (.int (0 : Int32)), some (.int (0 : Int32)), none, none]) hc rfl (zlt rfl) rfl rfl ?_
  refine zjn (G := (fun (g : Int32 × (Nat → Int32) × (Nat → Int32)) => match g with | (y7, y11, y12) => ∀ z8 : Option Value, znl z8 = true → ∀ z9 : Option Value, znl z9 = true → ∀ z10 : Option Value, znl z10 = true → pm_ev C_X12_parts (d + 1) (pm_call M cost zext d) cost (false, false) 108 0 0 Q 110 [some (.ref 75), some (.int y7), z8, z9, z10] [] 0 0 (zS p q I [(95, none, y11), (96, none, y12)] J []))) (zwp_bind h) ?_ (fun h => ?_)
  · rintro ⟨y7, y11, y12⟩ h z8 hz8 z9 hz9 z10 hz10
    refine g_iload_n (pc' := 111)  hc rfl rfl rfl ?_
    replace h := zws h
    exact g_ireturn hc rfl rfl rfl (fun _ => ⟨rfl, rfl⟩) h
  refine zitr_ev (G := (fun (g : Int32 × Int32 × (Nat → Int32) × (Nat → Int32)) => match g with | (x1, x2, x5, x6) => ∀ z3 : Option Value, znl z3 = true → ∀ z4 : Option Value, znl z4 = true → pm_ev C_X12_parts (d + 1) (pm_call M cost zext d) cost (false, false) 108 0 0 Q 4 [some (.ref 75), some (.int x1), some (.int x2), z3, z4] [] 0 0 (zS p q I [(95, none, x5), (96, none, x6)] J []))) ?_ zFU ((0 : Int32), (0 : Int32), (I 95), (I 96)) h none rfl none rfl
  rintro ⟨x1, x2, x5, x6⟩ h z3 hz3 z4 hz4
  refine g_iload_n (pc' := 5)  hc rfl rfl rfl ?_
  refine g_aload_n (pc' := 6)  hc rfl rfl rfl rfl ?_
  refine z_getI (pc' := 9) (v := (I 75 1)) hc rfl rfl rfl sh_75 rfl rfl rfl ?_
  refine g_aload_n (pc' := 10)  hc rfl rfl rfl rfl ?_
  refine z_getI (pc' := 13) (v := (I 75 2)) hc rfl rfl rfl sh_75 rfl rfl rfl ?_
  refine g_imul (pc' := 14)  hc rfl rfl ?_
  refine g_icmp_ge (pc' := 17) hc rfl rfl (fun hx => ?_) (fun hx => ?_)
  · replace h := zwp_t h hx
    replace h := zwp_r h
    exact h (some (.int x2)) rfl z3 hz3 z4 hz4
  · replace h := zwp_f h hx
    refine g_aload_n (pc' := 18)  hc rfl rfl rfl rfl ?_
    refine z_getR (pc' := 21)  hc rfl rfl rfl sh_75 rfl rfl ?_
    refine g_bipush (pc' := 23) (v := (33 : Int32)) hc rfl zkb_33 rfl ?_
    refine g_iload_n (pc' := 24)  hc rfl rfl rfl ?_
    refine g_iadd (pc' := 25)  hc rfl rfl ?_
    have hb := (zwp_bnd h).1
    replace h := (zwp_bnd h).2
    refine z_iaload (pc' := 26) (v := (((I 91)) ((33 : Int32) + x2).toNatClampNeg)) hc rfl rfl sh_91 hb rfl rfl ?_
    refine g_iconst (pc' := 27) (v := (1 : Int32)) hc rfl zki_1 rfl ?_
    refine g_icmp_ne (pc' := 30) hc rfl rfl (fun hx => ?_) (fun hx => ?_)
    · replace h := zwp_f h hx
      refine g_aload_n (pc' := 34)  hc rfl rfl rfl rfl ?_
      refine g_iload_n (pc' := 35)  hc rfl rfl rfl ?_
      refine z_virt (as := [.int x2]) (a := 75) (r := []) hc rfl rfl rfl rfl sh_75 rfl zco_213 rfl rfl rfl ?_
      refine ok_X12_laysFar_75 (zdp hd rfl) (zwp_mono (zwp_bind h) ?_)
      rintro ⟨o13, o14⟩ h
      refine z_po (pc' := 38) (st' := []) (v := none) (L' := [(95, none, o13), (96, none, o14)]) (K' := []) zco_213 rfl rfl rfl rfl rfl rfl rfl rfl ?_
      refine g_iconst (pc' := 39) (v := (1 : Int32)) hc rfl zki_1 rfl ?_
      refine g_istore_n (pc' := 40) (ls1 := [some (.ref 75), some (.int x1), some (.int x2), some (.int (1 : Int32)), z4]) hc rfl (zlt rfl) rfl rfl ?_
      refine g_iconst (pc' := 41) (v := (0 : Int32)) hc rfl zki_0 rfl ?_
      refine g_istore (pc' := 43) (ls1 := [some (.ref 75), some (.int x1), some (.int x2), some (.int (1 : Int32)), some (.int (0 : Int32))]) hc rfl (zlt rfl) rfl rfl ?_
      refine zjn (G := (fun (y17 : Int32) => ∀ z18 : Option Value, znl z18 = true → pm_ev C_X12_parts (d + 1) (pm_call M cost zext d) cost (false, false) 108 0 0 Q 92 [some (.ref 75), some (.int x1), some (.int x2), some (.int y17), z18] [] 0 0 (zS p q I [(95, none, o13), (96, none, o14)] J []))) (zwp_bind h) ?_ (fun h => ?_)
      · rintro y17 h z18 hz18
        refine g_iload_n (pc' := 93)  hc rfl rfl rfl ?_
        refine g_iload_n (pc' := 94)  hc rfl rfl rfl ?_
        refine zjn (G := (fun (j19 : Int32) => pm_ev C_X12_parts (d + 1) (pm_call M cost zext d) cost (false, false) 108 0 0 Q 102 [some (.ref 75), some (.int x1), some (.int x2), some (.int y17), z18] [.int j19, .int x1] 0 0 (zS p q I [(95, none, o13), (96, none, o14)] J []))) (zwp_bind h) ?_ (fun h => ?_)
        · rintro j19 h
          refine g_iadd (pc' := 103)  hc rfl rfl ?_
          refine g_istore_n (pc' := 104) (ls1 := [some (.ref 75), some (.int (x1 + j19)), some (.int x2), some (.int y17), z18]) hc rfl (zlt rfl) rfl rfl ?_
          refine g_iinc (pc' := 107) (ls1 := [some (.ref 75), some (.int (x1 + j19)), some (.int (x2 + (1 : Int32))), some (.int y17), z18]) hc rfl rfl zki_1 (zlt rfl) rfl rfl ?_
          refine g_goto hc rfl ?_
          replace h := zwp_l h
          exact h (some (.int y17)) rfl z18 hz18
        refine g_if_eq (pc' := 97) hc rfl rfl (fun hx => ?_) (fun hx => ?_)
        · replace h := zwp_t h hx
          refine g_iconst (pc' := 102) (v := (0 : Int32)) hc rfl zki_0 rfl ?_
          replace h := zws h
          exact h
        · replace h := zwp_f h hx
          refine g_iconst (pc' := 98) (v := (1 : Int32)) hc rfl zki_1 rfl ?_
          refine g_goto hc rfl ?_
          replace h := zws h
          exact h
      refine zitr_ev (G := (fun (g : Int32 × Int32) => match g with | (x15, x16) => pm_ev C_X12_parts (d + 1) (pm_call M cost zext d) cost (false, false) 108 0 0 Q 43 [some (.ref 75), some (.int x1), some (.int x2), some (.int x15), some (.int x16)] [] 0 0 (zS p q I [(95, none, o13), (96, none, o14)] J []))) ?_ zFU ((1 : Int32), (0 : Int32)) h
      rintro ⟨x15, x16⟩ h
      refine g_iload (pc' := 45)  hc rfl rfl rfl ?_
      refine g_iload_n (pc' := 46)  hc rfl rfl rfl ?_
      refine g_icmp_ge (pc' := 49) hc rfl rfl (fun hx => ?_) (fun hx => ?_)
      · replace h := zwp_t h hx
        replace h := zwp_r h
        exact h (some (.int x16)) rfl
      · replace h := zwp_f h hx
        refine g_iload_n (pc' := 50)  hc rfl rfl rfl ?_
        refine zjn (G := (fun (j20 : Int32) => pm_ev C_X12_parts (d + 1) (pm_call M cost zext d) cost (false, false) 108 0 0 Q 85 [some (.ref 75), some (.int x1), some (.int x2), some (.int x15), some (.int x16)] [.int j20] 0 0 (zS p q I [(95, none, o13), (96, none, o14)] J []))) (zwp_bind h) ?_ (fun h => ?_)
        · rintro j20 h
          refine g_istore_n (pc' := 86) (ls1 := [some (.ref 75), some (.int x1), some (.int x2), some (.int j20), some (.int x16)]) hc rfl (zlt rfl) rfl rfl ?_
          refine g_iinc (pc' := 89) (ls1 := [some (.ref 75), some (.int x1), some (.int x2), some (.int j20), some (.int (x16 + (1 : Int32)))]) hc rfl rfl zki_1 (zlt rfl) rfl rfl ?_
          refine g_goto hc rfl ?_
          replace h := zwp_l h
          exact h
        refine g_if_eq (pc' := 53) hc rfl rfl (fun hx => ?_) (fun hx => ?_)
        · replace h := zwp_t h hx
          refine g_iconst (pc' := 85) (v := (0 : Int32)) hc rfl zki_0 rfl ?_
          replace h := zws h
          exact h
        · replace h := zwp_f h hx
          refine g_aload_n (pc' := 54)  hc rfl rfl rfl rfl ?_
          refine z_getR (pc' := 57)  hc rfl rfl rfl sh_75 rfl rfl ?_
          refine g_iload (pc' := 59)  hc rfl rfl rfl ?_
          have hb := (zwp_bnd h).1
          replace h := (zwp_bnd h).2
          refine z_iaload (pc' := 60) (v := (o13 x16.toNatClampNeg)) hc rfl rfl sh_95 hb rfl rfl ?_
          refine g_sipush (pc' := 63) (v := (9999 : Int32)) hc rfl zks_9999 rfl ?_
          refine g_icmp_eq (pc' := 66) hc rfl rfl (fun hx => ?_) (fun hx => ?_)
          · replace h := zwp_t h hx
            refine g_iconst (pc' := 81) (v := (1 : Int32)) hc rfl zki_1 rfl ?_
            refine g_goto hc rfl ?_
            replace h := zws h
            exact h
          · replace h := zwp_f h hx
            refine g_aload_n (pc' := 67)  hc rfl rfl rfl rfl ?_
            refine z_getR (pc' := 70)  hc rfl rfl rfl sh_75 rfl rfl ?_
            refine g_bipush (pc' := 72) (v := (33 : Int32)) hc rfl zkb_33 rfl ?_
            refine g_iload (pc' := 74)  hc rfl rfl rfl ?_
            refine g_iadd (pc' := 75)  hc rfl rfl ?_
            have hb := (zwp_bnd h).1
            replace h := (zwp_bnd h).2
            refine z_iaload (pc' := 76) (v := (((I 91)) ((33 : Int32) + x16).toNatClampNeg)) hc rfl rfl sh_91 hb rfl rfl ?_
            refine g_iconst (pc' := 77) (v := (1 : Int32)) hc rfl zki_1 rfl ?_
            refine g_icmp_ne (pc' := 80) hc rfl rfl (fun hx => ?_) (fun hx => ?_)
            · replace h := zwp_f h hx
              refine g_iconst (pc' := 85) (v := (0 : Int32)) hc rfl zki_0 rfl ?_
              replace h := zws h
              exact h
            · replace h := zwp_t h hx
              refine g_iconst (pc' := 81) (v := (1 : Int32)) hc rfl zki_1 rfl ?_
              refine g_goto hc rfl ?_
              replace h := zws h
              exact h
    · replace h := zwp_t h hx
      refine g_goto hc rfl ?_
      refine g_iinc (pc' := 107) (ls1 := [some (.ref 75), some (.int x1), some (.int (x2 + (1 : Int32))), z3, z4]) hc rfl rfl zki_1 (zlt rfl) rfl rfl ?_
      refine g_goto hc rfl ?_
      replace h := zwp_l h
      exact h z3 hz3 z4 hz4
set_option maxRecDepth 4000 in
theorem ok_X12_lightAt_75 {p q : Nat} {I : pI} {J : pJ} {a1 : Int32} {Q : pQ} {d : Nat} (hd : 1 ≤ d) (h : zwp (f_X12_lightAt a1 (I 79) (I 75 5)) (fun r => Q (.inl (some (.int r))) (zS p q I [] J []))) : pm_call M cost zext d 199 [.ref 75, .int a1] (pm_st 108 (shp p q) I J) Q := by
  obtain ⟨d, rfl⟩ := zd1 hd rfl
  have hc := pm_call_m (M := M) (cost := cost) zext_m d
  refine z_in (L := []) (K := []) (ls := [some (.ref 75), some (.int a1)]) zmt_199 zco_199 rfl rfl zid_n zid_n ?_
  delta f_X12_lightAt at h
  refine g_aload_n (pc' := 1)  hc rfl rfl rfl rfl ?_
  refine z_getI (pc' := 4) (v := (I 75 5)) hc rfl rfl rfl sh_75 rfl rfl rfl ?_
  refine g_if_ne (pc' := 7) hc rfl rfl (fun hx => ?_) (fun hx => ?_)
  · replace h := zwp_f h hx
    refine g_aload_n (pc' := 12)  hc rfl rfl rfl rfl ?_
    refine z_getR (pc' := 15)  hc rfl rfl rfl sh_75 rfl rfl ?_
    refine g_iload_n (pc' := 16)  hc rfl rfl rfl ?_
    refine g_aload_n (pc' := 17)  hc rfl rfl rfl rfl ?_
    refine z_getI (pc' := 20) (v := (I 75 5)) hc rfl rfl rfl sh_75 rfl rfl rfl ?_
    have hz := (zwp_nz h).1
    replace h := (zwp_nz h).2
    refine g_irem (pc' := 21)  hc rfl hz rfl ?_
    have hb := (zwp_bnd h).1
    replace h := (zwp_bnd h).2
    refine z_iaload (pc' := 22) (v := (((I 79)) (a1 - a1 / ((I 75 5)) * ((I 75 5))).toNatClampNeg)) hc rfl rfl sh_79 hb rfl rfl ?_
    replace h := zws h
    exact g_ireturn hc rfl rfl rfl (fun _ => ⟨rfl, rfl⟩) h
  · replace h := zwp_t h hx
    refine g_iconst (pc' := 8) (v := (5 : Int32)) hc rfl zki_5 rfl ?_
    refine g_goto hc rfl ?_
    replace h := zws h
    exact g_ireturn hc rfl rfl rfl (fun _ => ⟨rfl, rfl⟩) h
set_option maxRecDepth 4000 in
theorem ok_X12_isDull_75 {p q : Nat} {I : pI} {J : pJ} {a1 : Int32} {Q : pQ} {d : Nat} (hd : 2 ≤ d) (h : zwp (f_X12_isDull a1 (I 75 6) (I 75 53) (I 79) (I 75 5) (I 91)) (fun r => Q (.inl (some (.int r))) (zS p q I [] J []))) : pm_call M cost zext d 200 [.ref 75, .int a1] (pm_st 108 (shp p q) I J) Q := by
  obtain ⟨d, rfl⟩ := zd1 hd rfl
  have hc := pm_call_m (M := M) (cost := cost) zext_m d
  refine z_in (L := []) (K := []) (ls := [some (.ref 75), some (.int a1)]) zmt_200 zco_200 rfl rfl zid_n zid_n ?_
  delta f_X12_isDull at h
  refine g_aload_n (pc' := 1)  hc rfl rfl rfl rfl ?_
  refine z_getI (pc' := 4) (v := (I 75 53)) hc rfl rfl rfl sh_75 rfl rfl rfl ?_
  refine g_iconst (pc' := 5) (v := (-1 : Int32)) hc rfl zki_m1 rfl ?_
  refine g_icmp_ne (pc' := 8) hc rfl rfl (fun hx => ?_) (fun hx => ?_)
  · replace h := zwp_f h hx
    refine g_aload_n (pc' := 36)  hc rfl rfl rfl rfl ?_
    refine z_getI (pc' := 39) (v := (I 75 53)) hc rfl rfl rfl sh_75 rfl rfl rfl ?_
    refine g_iconst (pc' := 40) (v := (1 : Int32)) hc rfl zki_1 rfl ?_
    refine g_icmp_ne (pc' := 43) hc rfl rfl (fun hx => ?_) (fun hx => ?_)
    · replace h := zwp_f h hx
      refine g_iconst (pc' := 48) (v := (0 : Int32)) hc rfl zki_0 rfl ?_
      replace h := zws h
      exact g_ireturn hc rfl rfl rfl (fun _ => ⟨rfl, rfl⟩) h
    · replace h := zwp_t h hx
      refine g_iconst (pc' := 44) (v := (1 : Int32)) hc rfl zki_1 rfl ?_
      refine g_goto hc rfl ?_
      replace h := zws h
      exact g_ireturn hc rfl rfl rfl (fun _ => ⟨rfl, rfl⟩) h
  · replace h := zwp_t h hx
    refine g_aload_n (pc' := 9)  hc rfl rfl rfl rfl ?_
    refine g_aload_n (pc' := 10)  hc rfl rfl rfl rfl ?_
    refine z_getR (pc' := 13)  hc rfl rfl rfl sh_75 rfl rfl ?_
    refine g_iload_n (pc' := 14)  hc rfl rfl rfl ?_
    refine g_iconst (pc' := 15) (v := (0 : Int32)) hc rfl zki_0 rfl ?_
    refine g_iadd (pc' := 16)  hc rfl rfl ?_
    have hb := (zwp_bnd h).1
    replace h := (zwp_bnd h).2
    refine z_iaload (pc' := 17) (v := (((I 91)) (a1 + (0 : Int32)).toNatClampNeg)) hc rfl rfl sh_91 hb rfl rfl ?_
    refine z_virt (as := [.int (((I 91)) (a1 + (0 : Int32)).toNatClampNeg)]) (a := 75) (r := []) hc rfl rfl rfl rfl sh_75 rfl zco_199 rfl rfl rfl ?_
    refine ok_X12_lightAt_75 (zdp hd rfl) (zwp_mono (zwp_bind h) ?_)
    rintro r1 h
    refine z_po (pc' := 20) (st' := [.int r1]) (v := (some (.int r1))) (L' := []) (K' := []) zco_199 rfl rfl rfl rfl rfl rfl rfl rfl ?_
    refine g_aload_n (pc' := 21)  hc rfl rfl rfl rfl ?_
    refine z_getI (pc' := 24) (v := (I 75 6)) hc rfl rfl rfl sh_75 rfl rfl rfl ?_
    refine g_icmp_ge (pc' := 27) hc rfl rfl (fun hx => ?_) (fun hx => ?_)
    · replace h := zwp_t h hx
      refine g_iconst (pc' := 32) (v := (0 : Int32)) hc rfl zki_0 rfl ?_
      refine g_goto hc rfl ?_
      replace h := zws h
      exact g_ireturn hc rfl rfl rfl (fun _ => ⟨rfl, rfl⟩) h
    · replace h := zwp_f h hx
      refine g_iconst (pc' := 28) (v := (1 : Int32)) hc rfl zki_1 rfl ?_
      refine g_goto hc rfl ?_
      replace h := zws h
      exact g_ireturn hc rfl rfl rfl (fun _ => ⟨rfl, rfl⟩) h
set_option maxRecDepth 4000 in
theorem ok_X12_count_75 {p q : Nat} {I : pI} {J : pJ} {a1 : Int32} {Q : pQ} {d : Nat} (hd : 4 ≤ d) (h : zwp (f_X12_count a1 (I 75 50) (I 75 6) (I 75 53) (I 95) (I 75 3) (I 79) (I 75 5) (I 75 60) (I 96) (I 82) (I 91) (I 75 4) (I 75 2) (I 75 15) (I 75 0) (I 75 1)) (fun w => match w with | (r, o0, o1, o2) => Q (.inl (some (.int r))) (zS p q I [(75, some 0, fun _ => o2), (95, none, o0), (96, none, o1)] J []))) : pm_call M cost zext d 215 [.ref 75, .int a1] (pm_st 108 (shp p q) I J) Q := by
  obtain ⟨d, rfl⟩ := zd1 hd rfl
  have hc := pm_call_m (M := M) (cost := cost) zext_m d
  refine z_in (L := [(75, some 0, fun _ => (I 75 0)), (95, none, (I 95)), (96, none, (I 96))]) (K := []) (ls := [some (.ref 75), some (.int a1)]) zmt_215 zco_215 rfl rfl (zid_s (zid_a (zid_a zid_n))) zid_n ?_
  delta f_X12_count at h
  refine g_aload_n (pc' := 1)  hc rfl rfl rfl rfl ?_
  refine g_iconst (pc' := 2) (v := (0 : Int32)) hc rfl zki_0 rfl ?_
  refine z_putI (pc' := 5) (L' := [(75, some 0, fun _ => (0 : Int32)), (95, none, (I 95)), (96, none, (I 96))]) hc rfl rfl rfl sh_75 rfl zft_12_0 rfl (fun h => Bool.noConfusion h) rfl rfl rfl ?_
  refine g_aload_n (pc' := 6)  hc rfl rfl rfl rfl ?_
  refine g_iload_n (pc' := 7)  hc rfl rfl rfl ?_
  refine g_iconst (pc' := 8) (v := (0 : Int32)) hc rfl zki_0 rfl ?_
  refine g_bipush (pc' := 10) (v := (17 : Int32)) hc rfl zkb_17 rfl ?_
  refine z_stat (as := [.int a1, .int (0 : Int32), .int (17 : Int32)]) (r := [.ref 75]) hc rfl rfl rfl rfl zco_154 rfl rfl rfl ?_
  refine ok_X12_within (zdp hd rfl) (zwp_mono (zwp_bind h) ?_)
  rintro r1 h
  refine z_po (pc' := 13) (st' := [.int r1, .ref 75]) (v := (some (.int r1))) (L' := [(75, some 0, fun _ => (0 : Int32)), (95, none, (I 95)), (96, none, (I 96))]) (K' := []) zco_154 rfl rfl rfl rfl rfl rfl rfl rfl ?_
  refine g_iconst (pc' := 14) (v := (1 : Int32)) hc rfl zki_1 rfl ?_
  refine z_virt (as := [.int r1, .int (1 : Int32)]) (a := 75) (r := []) hc rfl rfl rfl rfl sh_75 rfl zco_153 rfl rfl rfl ?_
  refine ok_X12_right_75 (zdp hd rfl) (zwp_mono (zwp_bind h) ?_)
  rintro ⟨r3, o2⟩ h
  refine z_po (pc' := 17) (st' := [.int r3]) (v := (some (.int r3))) (L' := [(75, some 0, fun _ => o2), (95, none, (I 95)), (96, none, (I 96))]) (K' := []) zco_153 rfl rfl rfl rfl rfl rfl rfl rfl ?_
  refine g_if_ne (pc' := 20) hc rfl rfl (fun hx => ?_) (fun hx => ?_)
  · replace h := zwp_f h hx
    refine g_iload_n (pc' := 23)  hc rfl rfl rfl ?_
    by_cases hx4 : a1 = (0 : Int32)
    · replace h := zwp_t h hx4
      refine z_switch (pc' := 96) hc rfl (by rw [hx4]; decide +kernel) ?_
      refine g_aload_n (pc' := 97)  hc rfl rfl rfl rfl ?_
      refine z_getI (pc' := 100) (v := (I 75 3)) hc rfl rfl rfl sh_75 rfl rfl rfl ?_
      replace h := zws h
      exact g_ireturn hc rfl rfl rfl (fun _ => ⟨rfl, rfl⟩) h
    replace h := zwp_f h hx4
    by_cases hx5 : a1 = (1 : Int32)
    · replace h := zwp_t h hx5
      refine z_switch (pc' := 101) hc rfl (by rw [hx5]; decide +kernel) ?_
      refine g_aload_n (pc' := 102)  hc rfl rfl rfl rfl ?_
      refine z_getI (pc' := 105) (v := (I 75 4)) hc rfl rfl rfl sh_75 rfl rfl rfl ?_
      replace h := zws h
      exact g_ireturn hc rfl rfl rfl (fun _ => ⟨rfl, rfl⟩) h
    replace h := zwp_f h hx5
    by_cases hx6 : a1 = (2 : Int32)
    · replace h := zwp_t h hx6
      refine z_switch (pc' := 106) hc rfl (by rw [hx6]; decide +kernel) ?_
      refine g_aload_n (pc' := 107)  hc rfl rfl rfl rfl ?_
      refine z_getI (pc' := 110) (v := (I 75 1)) hc rfl rfl rfl sh_75 rfl rfl rfl ?_
      replace h := zws h
      exact g_ireturn hc rfl rfl rfl (fun _ => ⟨rfl, rfl⟩) h
    replace h := zwp_f h hx6
    by_cases hx7 : a1 = (3 : Int32)
    · replace h := zwp_t h hx7
      refine z_switch (pc' := 111) hc rfl (by rw [hx7]; decide +kernel) ?_
      refine g_aload_n (pc' := 112)  hc rfl rfl rfl rfl ?_
      refine z_getI (pc' := 115) (v := (I 75 2)) hc rfl rfl rfl sh_75 rfl rfl rfl ?_
      replace h := zws h
      exact g_ireturn hc rfl rfl rfl (fun _ => ⟨rfl, rfl⟩) h
    replace h := zwp_f h hx7
    by_cases hx8 : a1 = (4 : Int32)
    · replace h := zwp_t h hx8
      refine z_switch (pc' := 116) hc rfl (by rw [hx8]; decide +kernel) ?_
      refine g_aload_n (pc' := 117)  hc rfl rfl rfl rfl ?_
      refine z_getR (pc' := 120)  hc rfl rfl rfl sh_75 rfl rfl ?_
      refine g_iconst (pc' := 121) (v := (0 : Int32)) hc rfl zki_0 rfl ?_
      refine z_iaload (pc' := 122) (v := (((I 91)) 0)) hc rfl rfl sh_91 (by decide) rfl rfl ?_
      replace h := zws h
      exact g_ireturn hc rfl rfl rfl (fun _ => ⟨rfl, rfl⟩) h
    replace h := zwp_f h hx8
    by_cases hx9 : a1 = (5 : Int32)
    · replace h := zwp_t h hx9
      refine z_switch (pc' := 123) hc rfl (by rw [hx9]; decide +kernel) ?_
      refine g_aload_n (pc' := 124)  hc rfl rfl rfl rfl ?_
      refine g_aload_n (pc' := 125)  hc rfl rfl rfl rfl ?_
      refine z_getR (pc' := 128)  hc rfl rfl rfl sh_75 rfl rfl ?_
      refine g_iconst (pc' := 129) (v := (0 : Int32)) hc rfl zki_0 rfl ?_
      refine z_iaload (pc' := 130) (v := (((I 91)) 0)) hc rfl rfl sh_91 (by decide) rfl rfl ?_
      refine z_virt (as := [.int (((I 91)) 0)]) (a := 75) (r := []) hc rfl rfl rfl rfl sh_75 rfl zco_199 rfl rfl rfl ?_
      refine ok_X12_lightAt_75 (zdp hd rfl) (zwp_mono (zwp_bind h) ?_)
      rintro r19 h
      refine z_po (pc' := 133) (st' := [.int r19]) (v := (some (.int r19))) (L' := [(75, some 0, fun _ => o2), (95, none, (I 95)), (96, none, (I 96))]) (K' := []) zco_199 rfl rfl rfl rfl rfl rfl rfl rfl ?_
      replace h := zws h
      exact g_ireturn hc rfl rfl rfl (fun _ => ⟨rfl, rfl⟩) h
    replace h := zwp_f h hx9
    by_cases hx10 : a1 = (6 : Int32)
    · replace h := zwp_t h hx10
      refine z_switch (pc' := 134) hc rfl (by rw [hx10]; decide +kernel) ?_
      refine g_aload_n (pc' := 135)  hc rfl rfl rfl rfl ?_
      refine g_iconst (pc' := 136) (v := (0 : Int32)) hc rfl zki_0 rfl ?_
      refine z_virt (as := [.int (0 : Int32)]) (a := 75) (r := []) hc rfl rfl rfl rfl sh_75 rfl zco_200 rfl rfl rfl ?_
      refine ok_X12_isDull_75 (zdp hd rfl) (zwp_mono (zwp_bind h) ?_)
      rintro r20 h
      refine z_po (pc' := 139) (st' := [.int r20]) (v := (some (.int r20))) (L' := [(75, some 0, fun _ => o2), (95, none, (I 95)), (96, none, (I 96))]) (K' := []) zco_200 rfl rfl rfl rfl rfl rfl rfl rfl ?_
      refine g_if_eq (pc' := 142) hc rfl rfl (fun hx => ?_) (fun hx => ?_)
      · replace h := zwp_t h hx
        refine g_iconst (pc' := 147) (v := (0 : Int32)) hc rfl zki_0 rfl ?_
        replace h := zws h
        exact g_ireturn hc rfl rfl rfl (fun _ => ⟨rfl, rfl⟩) h
      · replace h := zwp_f h hx
        refine g_iconst (pc' := 143) (v := (1 : Int32)) hc rfl zki_1 rfl ?_
        refine g_goto hc rfl ?_
        replace h := zws h
        exact g_ireturn hc rfl rfl rfl (fun _ => ⟨rfl, rfl⟩) h
    replace h := zwp_f h hx10
    by_cases hx11 : a1 = (7 : Int32)
    · replace h := zwp_t h hx11
      refine z_switch (pc' := 148) hc rfl (by rw [hx11]; decide +kernel) ?_
      refine g_aload_n (pc' := 149)  hc rfl rfl rfl rfl ?_
      refine z_getR (pc' := 152)  hc rfl rfl rfl sh_75 rfl rfl ?_
      refine g_bipush (pc' := 154) (v := (69 : Int32)) hc rfl zkb_69 rfl ?_
      refine z_iaload (pc' := 155) (v := (((I 91)) 69)) hc rfl rfl sh_91 (by decide) rfl rfl ?_
      replace h := zws h
      exact g_ireturn hc rfl rfl rfl (fun _ => ⟨rfl, rfl⟩) h
    replace h := zwp_f h hx11
    by_cases hx12 : a1 = (8 : Int32)
    · replace h := zwp_t h hx12
      refine z_switch (pc' := 156) hc rfl (by rw [hx12]; decide +kernel) ?_
      refine g_aload_n (pc' := 157)  hc rfl rfl rfl rfl ?_
      refine g_iconst (pc' := 158) (v := (0 : Int32)) hc rfl zki_0 rfl ?_
      refine g_bipush (pc' := 160) (v := (33 : Int32)) hc rfl zkb_33 rfl ?_
      refine g_bipush (pc' := 162) (v := (36 : Int32)) hc rfl zkb_36 rfl ?_
      refine z_virt (as := [.int (0 : Int32), .int (33 : Int32), .int (36 : Int32)]) (a := 75) (r := []) hc rfl rfl rfl rfl sh_75 rfl zco_211 rfl rfl rfl ?_
      refine ok_X12_sumOf_75 (zdp hd rfl) (zwp_mono (zwp_bind h) ?_)
      rintro r21 h
      refine z_po (pc' := 165) (st' := [.int r21]) (v := (some (.int r21))) (L' := [(75, some 0, fun _ => o2), (95, none, (I 95)), (96, none, (I 96))]) (K' := []) zco_211 rfl rfl rfl rfl rfl rfl rfl rfl ?_
      replace h := zws h
      exact g_ireturn hc rfl rfl rfl (fun _ => ⟨rfl, rfl⟩) h
    replace h := zwp_f h hx12
    by_cases hx13 : a1 = (9 : Int32)
    · replace h := zwp_t h hx13
      refine z_switch (pc' := 166) hc rfl (by rw [hx13]; decide +kernel) ?_
      refine g_aload_n (pc' := 167)  hc rfl rfl rfl rfl ?_
      refine z_virt (as := []) (a := 75) (r := []) hc rfl rfl rfl rfl sh_75 rfl zco_214 rfl rfl rfl ?_
      refine ok_X12_parts_75 (zdp hd rfl) (zwp_mono (zwp_bind h) ?_)
      rintro ⟨r24, o22, o23⟩ h
      refine z_po (pc' := 170) (st' := [.int r24]) (v := (some (.int r24))) (L' := [(75, some 0, fun _ => o2), (95, none, o22), (96, none, o23)]) (K' := []) zco_214 rfl rfl rfl rfl rfl rfl rfl rfl ?_
      replace h := zws h
      exact g_ireturn hc rfl rfl rfl (fun _ => ⟨rfl, rfl⟩) h
    replace h := zwp_f h hx13
    by_cases hx14 : a1 = (10 : Int32)
    · replace h := zwp_t h hx14
      refine z_switch (pc' := 171) hc rfl (by rw [hx14]; decide +kernel) ?_
      refine g_aload_n (pc' := 172)  hc rfl rfl rfl rfl ?_
      refine g_iconst (pc' := 173) (v := (0 : Int32)) hc rfl zki_0 rfl ?_
      refine g_bipush (pc' := 175) (v := (9 : Int32)) hc rfl zkb_9 rfl ?_
      refine g_aload_n (pc' := 176)  hc rfl rfl rfl rfl ?_
      refine z_getI (pc' := 179) (v := (I 75 3)) hc rfl rfl rfl sh_75 rfl rfl rfl ?_
      refine z_virt (as := [.int (0 : Int32), .int (9 : Int32), .int (I 75 3)]) (a := 75) (r := []) hc rfl rfl rfl rfl sh_75 rfl zco_211 rfl rfl rfl ?_
      refine ok_X12_sumOf_75 (zdp hd rfl) (zwp_mono (zwp_bind h) ?_)
      rintro r25 h
      refine z_po (pc' := 182) (st' := [.int r25]) (v := (some (.int r25))) (L' := [(75, some 0, fun _ => o2), (95, none, (I 95)), (96, none, (I 96))]) (K' := []) zco_211 rfl rfl rfl rfl rfl rfl rfl rfl ?_
      replace h := zws h
      exact g_ireturn hc rfl rfl rfl (fun _ => ⟨rfl, rfl⟩) h
    replace h := zwp_f h hx14
    by_cases hx15 : a1 = (11 : Int32)
    · replace h := zwp_t h hx15
      refine z_switch (pc' := 183) hc rfl (by rw [hx15]; decide +kernel) ?_
      refine g_aload_n (pc' := 184)  hc rfl rfl rfl rfl ?_
      refine z_virt (as := []) (a := 75) (r := []) hc rfl rfl rfl rfl sh_75 rfl zco_212 rfl rfl rfl ?_
      refine ok_X12_heldOnes_75 (zdp hd rfl) (zwp_mono (zwp_bind h) ?_)
      rintro r26 h
      refine z_po (pc' := 187) (st' := [.int r26]) (v := (some (.int r26))) (L' := [(75, some 0, fun _ => o2), (95, none, (I 95)), (96, none, (I 96))]) (K' := []) zco_212 rfl rfl rfl rfl rfl rfl rfl rfl ?_
      replace h := zws h
      exact g_ireturn hc rfl rfl rfl (fun _ => ⟨rfl, rfl⟩) h
    replace h := zwp_f h hx15
    by_cases hx16 : a1 = (12 : Int32)
    · replace h := zwp_t h hx16
      refine z_switch (pc' := 188) hc rfl (by rw [hx16]; decide +kernel) ?_
      refine g_aload_n (pc' := 189)  hc rfl rfl rfl rfl ?_
      refine z_getI (pc' := 192) (v := (I 75 50)) hc rfl rfl rfl sh_75 rfl rfl rfl ?_
      replace h := zws h
      exact g_ireturn hc rfl rfl rfl (fun _ => ⟨rfl, rfl⟩) h
    replace h := zwp_f h hx16
    by_cases hx17 : a1 = (13 : Int32)
    · replace h := zwp_t h hx17
      refine z_switch (pc' := 193) hc rfl (by rw [hx17]; decide +kernel) ?_
      refine g_aload_n (pc' := 194)  hc rfl rfl rfl rfl ?_
      refine z_getI (pc' := 197) (v := (I 75 60)) hc rfl rfl rfl sh_75 rfl rfl rfl ?_
      replace h := zws h
      exact g_ireturn hc rfl rfl rfl (fun _ => ⟨rfl, rfl⟩) h
    replace h := zwp_f h hx17
    by_cases hx18 : a1 = (14 : Int32)
    · replace h := zwp_t h hx18
      refine z_switch (pc' := 198) hc rfl (by rw [hx18]; decide +kernel) ?_
      refine g_aload_n (pc' := 199)  hc rfl rfl rfl rfl ?_
      refine z_getI (pc' := 202) (v := (I 75 15)) hc rfl rfl rfl sh_75 rfl rfl rfl ?_
      replace h := zws h
      exact g_ireturn hc rfl rfl rfl (fun _ => ⟨rfl, rfl⟩) h
    replace h := zwp_f h hx18
    refine z_switch (pc' := 203) hc rfl (zsw_df (told := [(0 : Int32), (1 : Int32), (2 : Int32), (3 : Int32), (4 : Int32), (5 : Int32), (6 : Int32), (7 : Int32), (8 : Int32), (9 : Int32), (10 : Int32), (11 : Int32), (12 : Int32), (13 : Int32), (14 : Int32)]) (by decide +kernel) (by decide) rfl (zne_c hx4 (zne_c hx5 (zne_c hx6 (zne_c hx7 (zne_c hx8 (zne_c hx9 (zne_c hx10 (zne_c hx11 (zne_c hx12 (zne_c hx13 (zne_c hx14 (zne_c hx15 (zne_c hx16 (zne_c hx17 (zne_c hx18 zne_n)))))))))))))))) ?_
    refine g_aload_n (pc' := 204)  hc rfl rfl rfl rfl ?_
    refine z_getR (pc' := 207)  hc rfl rfl rfl sh_75 rfl rfl ?_
    refine g_iload_n (pc' := 208)  hc rfl rfl rfl ?_
    refine g_bipush (pc' := 210) (v := (15 : Int32)) hc rfl zkb_15 rfl ?_
    refine g_isub (pc' := 211)  hc rfl rfl ?_
    have hb := (zwp_bnd h).1
    replace h := (zwp_bnd h).2
    refine z_iaload (pc' := 212) (v := (((I 82)) (a1 - (15 : Int32)).toNatClampNeg)) hc rfl rfl sh_82 hb rfl rfl ?_
    replace h := zws h
    exact g_ireturn hc rfl rfl rfl (fun _ => ⟨rfl, rfl⟩) h
  · replace h := zwp_t h hx
    refine g_iconst (pc' := 21) (v := (0 : Int32)) hc rfl zki_0 rfl ?_
    replace h := zws h
    exact g_ireturn hc rfl rfl rfl (fun _ => ⟨rfl, rfl⟩) h
set_option maxRecDepth 4000 in
theorem ok_X12_isFigure_75 {p q : Nat} {I : pI} {J : pJ} {a1 : Int32} {Q : pQ} {d : Nat} (hd : 2 ≤ d) (h : zwp (f_X12_isFigure a1 (I 75 3) (I 75 0)) (fun w => match w with | (r, o0) => Q (.inl (some (.int r))) (zS p q I [(75, some 0, fun _ => o0)] J []))) : pm_call M cost zext d 216 [.ref 75, .int a1] (pm_st 108 (shp p q) I J) Q := by
  obtain ⟨d, rfl⟩ := zd1 hd rfl
  have hc := pm_call_m (M := M) (cost := cost) zext_m d
  refine z_in (L := [(75, some 0, fun _ => (I 75 0))]) (K := []) (ls := [some (.ref 75), some (.int a1)]) zmt_216 zco_216 rfl rfl (zid_s zid_n) zid_n ?_
  delta f_X12_isFigure at h
  refine g_aload_n (pc' := 1)  hc rfl rfl rfl rfl ?_
  refine g_iload_n (pc' := 2)  hc rfl rfl rfl ?_
  refine zjn (G := (fun (j1 : Int32) => pm_ev C_X12_isFigure (d + 1) (pm_call M cost zext d) cost (false, false) 108 0 0 Q 18 [some (.ref 75), some (.int a1)] [.int j1, .ref 75] 0 0 (zS p q I [(75, some 0, fun _ => (I 75 0))] J []))) (zwp_bind h) ?_ (fun h => ?_)
  · rintro j1 h
    refine g_iconst (pc' := 19) (v := (1 : Int32)) hc rfl zki_1 rfl ?_
    refine z_virt (as := [.int j1, .int (1 : Int32)]) (a := 75) (r := []) hc rfl rfl rfl rfl sh_75 rfl zco_153 rfl rfl rfl ?_
    refine ok_X12_right_75 (zdp hd rfl) (zwp_mono (zwp_bind h) ?_)
    rintro ⟨r3, o2⟩ h
    refine z_po (pc' := 22) (st' := [.int r3]) (v := (some (.int r3))) (L' := [(75, some 0, fun _ => o2)]) (K' := []) zco_153 rfl rfl rfl rfl rfl rfl rfl rfl ?_
    have hz := (zwp_bol h).1
    replace h := (zwp_bol h).2
    replace h := zws h
    exact g_ireturn hc rfl rfl hz (fun _ => ⟨rfl, rfl⟩) h
  refine g_if_lt (pc' := 5) hc rfl rfl (fun hx => ?_) (fun hx => ?_)
  · replace h := zwp_t h hx
    refine g_iconst (pc' := 18) (v := (0 : Int32)) hc rfl zki_0 rfl ?_
    replace h := zws h
    exact h
  · replace h := zwp_f h hx
    refine g_iload_n (pc' := 6)  hc rfl rfl rfl ?_
    refine g_aload_n (pc' := 7)  hc rfl rfl rfl rfl ?_
    refine z_getI (pc' := 10) (v := (I 75 3)) hc rfl rfl rfl sh_75 rfl rfl rfl ?_
    refine g_icmp_ge (pc' := 13) hc rfl rfl (fun hx => ?_) (fun hx => ?_)
    · replace h := zwp_t h hx
      refine g_iconst (pc' := 18) (v := (0 : Int32)) hc rfl zki_0 rfl ?_
      replace h := zws h
      exact h
    · replace h := zwp_f h hx
      refine g_iconst (pc' := 14) (v := (1 : Int32)) hc rfl zki_1 rfl ?_
      refine g_goto hc rfl ?_
      replace h := zws h
      exact h
set_option maxRecDepth 4000 in
theorem ok_X12_isWhat_75 {p q : Nat} {I : pI} {J : pJ} {a1 : Int32} {a2 : Int32} {Q : pQ} {d : Nat} (hd : 2 ≤ d) (h : zwp (f_X12_isWhat a1 a2 (I 75 0)) (fun w => match w with | (r, o0) => Q (.inl (some (.int r))) (zS p q I [(75, some 0, fun _ => o0)] J []))) : pm_call M cost zext d 218 [.ref 75, .int a1, .int a2] (pm_st 108 (shp p q) I J) Q := by
  obtain ⟨d, rfl⟩ := zd1 hd rfl
  have hc := pm_call_m (M := M) (cost := cost) zext_m d
  refine z_in (L := [(75, some 0, fun _ => (I 75 0))]) (K := []) (ls := [some (.ref 75), some (.int a1), some (.int a2)]) zmt_218 zco_218 rfl rfl (zid_s zid_n) zid_n ?_
  delta f_X12_isWhat at h
  refine g_aload_n (pc' := 1)  hc rfl rfl rfl rfl ?_
  refine g_iload_n (pc' := 2)  hc rfl rfl rfl ?_
  refine g_iconst (pc' := 3) (v := (0 : Int32)) hc rfl zki_0 rfl ?_
  refine g_iload_n (pc' := 4)  hc rfl rfl rfl ?_
  refine z_stat (as := [.int a1, .int (0 : Int32), .int a2]) (r := [.ref 75]) hc rfl rfl rfl rfl zco_154 rfl rfl rfl ?_
  refine ok_X12_within (zdp hd rfl) (zwp_mono (zwp_bind h) ?_)
  rintro r1 h
  refine z_po (pc' := 7) (st' := [.int r1, .ref 75]) (v := (some (.int r1))) (L' := [(75, some 0, fun _ => (I 75 0))]) (K' := []) zco_154 rfl rfl rfl rfl rfl rfl rfl rfl ?_
  refine g_iconst (pc' := 8) (v := (1 : Int32)) hc rfl zki_1 rfl ?_
  refine z_virt (as := [.int r1, .int (1 : Int32)]) (a := 75) (r := []) hc rfl rfl rfl rfl sh_75 rfl zco_153 rfl rfl rfl ?_
  refine ok_X12_right_75 (zdp hd rfl) (zwp_mono (zwp_bind h) ?_)
  rintro ⟨r3, o2⟩ h
  refine z_po (pc' := 11) (st' := [.int r3]) (v := (some (.int r3))) (L' := [(75, some 0, fun _ => o2)]) (K' := []) zco_153 rfl rfl rfl rfl rfl rfl rfl rfl ?_
  have hz := (zwp_bol h).1
  replace h := (zwp_bol h).2
  replace h := zws h
  exact g_ireturn hc rfl rfl hz (fun _ => ⟨rfl, rfl⟩) h
set_option maxRecDepth 4000 in
theorem ok_X12_stepOf_75 {p q : Nat} {I : pI} {J : pJ} {a1 : Int32} {a2 : Int32} {Q : pQ} {d : Nat} (hd : 1 ≤ d) (h : zwp (f_X12_stepOf a1 a2 (I 91) (I 76) (I 77)) (fun r => Q (.inl (some (.int r))) (zS p q I [] J []))) : pm_call M cost zext d 203 [.ref 75, .int a1, .int a2] (pm_st 108 (shp p q) I J) Q := by
  obtain ⟨d, rfl⟩ := zd1 hd rfl
  have hc := pm_call_m (M := M) (cost := cost) zext_m d
  refine z_in (L := []) (K := []) (ls := [some (.ref 75), some (.int a1), some (.int a2)]) zmt_203 zco_203 rfl rfl zid_n zid_n ?_
  delta f_X12_stepOf at h
  refine g_aload_n (pc' := 1)  hc rfl rfl rfl rfl ?_
  refine z_getR (pc' := 4)  hc rfl rfl rfl sh_75 rfl rfl ?_
  refine g_bipush (pc' := 6) (v := (8 : Int32)) hc rfl zkb_8 rfl ?_
  refine g_iload_n (pc' := 7)  hc rfl rfl rfl ?_
  refine g_imul (pc' := 8)  hc rfl rfl ?_
  refine g_aload_n (pc' := 9)  hc rfl rfl rfl rfl ?_
  refine z_getR (pc' := 12)  hc rfl rfl rfl sh_75 rfl rfl ?_
  refine g_iload_n (pc' := 13)  hc rfl rfl rfl ?_
  refine g_iconst (pc' := 14) (v := (0 : Int32)) hc rfl zki_0 rfl ?_
  refine g_iadd (pc' := 15)  hc rfl rfl ?_
  have hb := (zwp_bnd h).1
  replace h := (zwp_bnd h).2
  refine z_iaload (pc' := 16) (v := (((I 91)) (a1 + (0 : Int32)).toNatClampNeg)) hc rfl rfl sh_91 hb rfl rfl ?_
  refine g_aload_n (pc' := 17)  hc rfl rfl rfl rfl ?_
  refine z_getR (pc' := 20)  hc rfl rfl rfl sh_75 rfl rfl ?_
  refine g_iload_n (pc' := 21)  hc rfl rfl rfl ?_
  refine g_bipush (pc' := 23) (v := (25 : Int32)) hc rfl zkb_25 rfl ?_
  refine g_iadd (pc' := 24)  hc rfl rfl ?_
  refine g_iload_n (pc' := 25)  hc rfl rfl rfl ?_
  refine g_iadd (pc' := 26)  hc rfl rfl ?_
  have hb := (zwp_bnd h).1
  replace h := (zwp_bnd h).2
  refine z_iaload (pc' := 27) (v := (((I 91)) ((a1 + (25 : Int32)) + a2).toNatClampNeg)) hc rfl rfl sh_91 hb rfl rfl ?_
  refine g_iadd (pc' := 28)  hc rfl rfl ?_
  refine g_aload_n (pc' := 29)  hc rfl rfl rfl rfl ?_
  refine z_getR (pc' := 32)  hc rfl rfl rfl sh_75 rfl rfl ?_
  refine g_iload_n (pc' := 33)  hc rfl rfl rfl ?_
  have hb := (zwp_bnd h).1
  replace h := (zwp_bnd h).2
  refine z_iaload (pc' := 34) (v := (((I 76)) a2.toNatClampNeg)) hc rfl rfl sh_76 hb rfl rfl ?_
  have hz := (zwp_nz h).1
  replace h := (zwp_nz h).2
  refine g_irem (pc' := 35)  hc rfl hz rfl ?_
  refine g_iadd (pc' := 36)  hc rfl rfl ?_
  have hb := (zwp_bnd h).1
  replace h := (zwp_bnd h).2
  refine z_iaload (pc' := 37) (v := (((I 77)) (((8 : Int32) * a2) + (((((I 91)) (a1 + (0 : Int32)).toNatClampNeg) + (((I 91)) ((a1 + (25 : Int32)) + a2).toNatClampNeg)) - ((((I 91)) (a1 + (0 : Int32)).toNatClampNeg) + (((I 91)) ((a1 + (25 : Int32)) + a2).toNatClampNeg)) / (((I 76)) a2.toNatClampNeg) * (((I 76)) a2.toNatClampNeg))).toNatClampNeg)) hc rfl rfl sh_77 hb rfl rfl ?_
  replace h := zws h
  exact g_ireturn hc rfl rfl rfl (fun _ => ⟨rfl, rfl⟩) h
set_option maxRecDepth 4000 in
theorem ok_X12_atCell_75 {p q : Nat} {I : pI} {J : pJ} {a1 : Int32} {a2 : Int32} {Q : pQ} {d : Nat} (hd : 1 ≤ d) (h : zwp (f_X12_atCell a1 a2 (I 75 3) (I 91)) (fun r => Q (.inl (some (.int r))) (zS p q I [] J []))) : pm_call M cost zext d 201 [.ref 75, .int a1, .int a2] (pm_st 108 (shp p q) I J) Q := by
  obtain ⟨d, rfl⟩ := zd1 hd rfl
  have hc := pm_call_m (M := M) (cost := cost) zext_m d
  refine z_in (L := []) (K := []) (ls := [some (.ref 75), some (.int a1), some (.int a2), none, none]) zmt_201 zco_201 rfl rfl zid_n zid_n ?_
  delta f_X12_atCell at h
  refine g_iconst (pc' := 1) (v := (0 : Int32)) hc rfl zki_0 rfl ?_
  refine g_istore_n (pc' := 2) (ls1 := [some (.ref 75), some (.int a1), some (.int a2), some (.int (0 : Int32)), none]) hc rfl (zlt rfl) rfl rfl ?_
  refine g_iconst (pc' := 3) (v := (0 : Int32)) hc rfl zki_0 rfl ?_
  refine g_istore (pc' := 5) (ls1 := [some (.ref 75), some (.int a1), some (.int a2), some (.int (0 : Int32)), some (.int (0 : Int32))]) hc rfl (zlt rfl) rfl rfl ?_
  refine zjn (G := (fun (y3 : Int32) => ∀ z4 : Option Value, znl z4 = true → pm_ev C_X12_atCell (d + 1) (pm_call M cost zext d) cost (false, false) 108 0 0 Q 46 [some (.ref 75), some (.int a1), some (.int a2), some (.int y3), z4] [] 0 0 (zS p q I [] J []))) (zwp_bind h) ?_ (fun h => ?_)
  · rintro y3 h z4 hz4
    refine g_iload_n (pc' := 47)  hc rfl rfl rfl ?_
    replace h := zws h
    exact g_ireturn hc rfl rfl rfl (fun _ => ⟨rfl, rfl⟩) h
  refine zitr_ev (G := (fun (g : Int32 × Int32) => match g with | (x1, x2) => pm_ev C_X12_atCell (d + 1) (pm_call M cost zext d) cost (false, false) 108 0 0 Q 5 [some (.ref 75), some (.int a1), some (.int a2), some (.int x1), some (.int x2)] [] 0 0 (zS p q I [] J []))) ?_ zFU ((0 : Int32), (0 : Int32)) h
  rintro ⟨x1, x2⟩ h
  refine g_iload (pc' := 7)  hc rfl rfl rfl ?_
  refine g_aload_n (pc' := 8)  hc rfl rfl rfl rfl ?_
  refine z_getI (pc' := 11) (v := (I 75 3)) hc rfl rfl rfl sh_75 rfl rfl rfl ?_
  refine g_icmp_ge (pc' := 14) hc rfl rfl (fun hx => ?_) (fun hx => ?_)
  · replace h := zwp_t h hx
    replace h := zwp_r h
    exact h (some (.int x2)) rfl
  · replace h := zwp_f h hx
    refine g_iload_n (pc' := 15)  hc rfl rfl rfl ?_
    refine g_aload_n (pc' := 16)  hc rfl rfl rfl rfl ?_
    refine z_getR (pc' := 19)  hc rfl rfl rfl sh_75 rfl rfl ?_
    refine g_iload_n (pc' := 20)  hc rfl rfl rfl ?_
    refine g_iconst (pc' := 21) (v := (1 : Int32)) hc rfl zki_1 rfl ?_
    refine g_iadd (pc' := 22)  hc rfl rfl ?_
    refine g_iload (pc' := 24)  hc rfl rfl rfl ?_
    refine g_iadd (pc' := 25)  hc rfl rfl ?_
    have hb := (zwp_bnd h).1
    replace h := (zwp_bnd h).2
    refine z_iaload (pc' := 26) (v := (((I 91)) ((a1 + (1 : Int32)) + x2).toNatClampNeg)) hc rfl rfl sh_91 hb rfl rfl ?_
    refine g_iload_n (pc' := 27)  hc rfl rfl rfl ?_
    refine zjn (G := (fun (j5 : Int32) => pm_ev C_X12_atCell (d + 1) (pm_call M cost zext d) cost (false, false) 108 0 0 Q 38 [some (.ref 75), some (.int a1), some (.int a2), some (.int x1), some (.int x2)] [.int j5, .int x1] 0 0 (zS p q I [] J []))) (zwp_bind h) ?_ (fun h => ?_)
    · rintro j5 h
      refine g_ior (pc' := 39)  hc rfl rfl ?_
      refine g_istore_n (pc' := 40) (ls1 := [some (.ref 75), some (.int a1), some (.int a2), some (.int (x1 ||| j5)), some (.int x2)]) hc rfl (zlt rfl) rfl rfl ?_
      refine g_iinc (pc' := 43) (ls1 := [some (.ref 75), some (.int a1), some (.int a2), some (.int (x1 ||| j5)), some (.int (x2 + (1 : Int32)))]) hc rfl rfl zki_1 (zlt rfl) rfl rfl ?_
      refine g_goto hc rfl ?_
      replace h := zwp_l h
      exact h
    refine g_icmp_ne (pc' := 30) hc rfl rfl (fun hx => ?_) (fun hx => ?_)
    · replace h := zwp_f h hx
      refine g_iconst (pc' := 38) (v := (0 : Int32)) hc rfl zki_0 rfl ?_
      replace h := zws h
      exact h
    · replace h := zwp_t h hx
      refine g_iconst (pc' := 31) (v := (1 : Int32)) hc rfl zki_1 rfl ?_
      refine g_iload (pc' := 33)  hc rfl rfl rfl ?_
      refine g_ishl (pc' := 34)  hc rfl rfl ?_
      refine g_goto hc rfl ?_
      replace h := zws h
      exact h
set_option maxRecDepth 4000 in
theorem ok_X12_bits {p q : Nat} {I : pI} {J : pJ} {a0 : Int32} {Q : pQ} {d : Nat} (hd : 1 ≤ d) (h : zwp (f_X12_bits a0) (fun r => Q (.inl (some (.int r))) (zS p q I [] J []))) : pm_call M cost zext d 158 [.int a0] (pm_st 108 (shp p q) I J) Q := by
  obtain ⟨d, rfl⟩ := zd1 hd rfl
  have hc := pm_call_m (M := M) (cost := cost) zext_m d
  refine z_in (L := []) (K := []) (ls := [some (.int a0), none, none]) zmt_158 zco_158 rfl rfl zid_n zid_n ?_
  delta f_X12_bits at h
  refine g_iconst (pc' := 1) (v := (0 : Int32)) hc rfl zki_0 rfl ?_
  refine g_istore_n (pc' := 2) (ls1 := [some (.int a0), some (.int (0 : Int32)), none]) hc rfl (zlt rfl) rfl rfl ?_
  refine g_iconst (pc' := 3) (v := (0 : Int32)) hc rfl zki_0 rfl ?_
  refine g_istore_n (pc' := 4) (ls1 := [some (.int a0), some (.int (0 : Int32)), some (.int (0 : Int32))]) hc rfl (zlt rfl) rfl rfl ?_
  refine zjn (G := (fun (y3 : Int32) => ∀ z4 : Option Value, znl z4 = true → pm_ev C_X12_bits (d + 1) (pm_call M cost zext d) cost (false, false) 108 0 0 Q 24 [some (.int a0), some (.int y3), z4] [] 0 0 (zS p q I [] J []))) (zwp_bind h) ?_ (fun h => ?_)
  · rintro y3 h z4 hz4
    refine g_iload_n (pc' := 25)  hc rfl rfl rfl ?_
    replace h := zws h
    exact g_ireturn hc rfl rfl rfl (fun _ => ⟨rfl, rfl⟩) h
  refine zitr_ev (G := (fun (g : Int32 × Int32) => match g with | (x1, x2) => pm_ev C_X12_bits (d + 1) (pm_call M cost zext d) cost (false, false) 108 0 0 Q 4 [some (.int a0), some (.int x1), some (.int x2)] [] 0 0 (zS p q I [] J []))) ?_ zFU ((0 : Int32), (0 : Int32)) h
  rintro ⟨x1, x2⟩ h
  refine g_iload_n (pc' := 5)  hc rfl rfl rfl ?_
  refine g_bipush (pc' := 7) (v := (8 : Int32)) hc rfl zkb_8 rfl ?_
  refine g_icmp_ge (pc' := 10) hc rfl rfl (fun hx => ?_) (fun hx => ?_)
  · replace h := zwp_t h hx
    replace h := zwp_r h
    exact h (some (.int x2)) rfl
  · replace h := zwp_f h hx
    refine g_iload_n (pc' := 11)  hc rfl rfl rfl ?_
    refine g_iload_n (pc' := 12)  hc rfl rfl rfl ?_
    refine g_iload_n (pc' := 13)  hc rfl rfl rfl ?_
    refine g_ishr (pc' := 14)  hc rfl rfl ?_
    refine g_iconst (pc' := 15) (v := (1 : Int32)) hc rfl zki_1 rfl ?_
    refine g_iand (pc' := 16)  hc rfl rfl ?_
    refine g_iadd (pc' := 17)  hc rfl rfl ?_
    refine g_istore_n (pc' := 18) (ls1 := [some (.int a0), some (.int (x1 + ((a0 >>> (x2 &&& 31)) &&& (1 : Int32)))), some (.int x2)]) hc rfl (zlt rfl) rfl rfl ?_
    refine g_iinc (pc' := 21) (ls1 := [some (.int a0), some (.int (x1 + ((a0 >>> (x2 &&& 31)) &&& (1 : Int32)))), some (.int (x2 + (1 : Int32)))]) hc rfl rfl zki_1 (zlt rfl) rfl rfl ?_
    refine g_goto hc rfl ?_
    replace h := zwp_l h
    exact h
set_option maxRecDepth 4000 in
theorem ok_X12_withIt_75 {p q : Nat} {I : pI} {J : pJ} {a1 : Int32} {a2 : Int32} {Q : pQ} {d : Nat} (hd : 2 ≤ d) (h : zwp (f_X12_withIt a1 a2 (I 75 3) (I 91)) (fun r => Q (.inl (some (.int r))) (zS p q I [] J []))) : pm_call M cost zext d 202 [.ref 75, .int a1, .int a2] (pm_st 108 (shp p q) I J) Q := by
  obtain ⟨d, rfl⟩ := zd1 hd rfl
  have hc := pm_call_m (M := M) (cost := cost) zext_m d
  refine z_in (L := []) (K := []) (ls := [some (.ref 75), some (.int a1), some (.int a2)]) zmt_202 zco_202 rfl rfl zid_n zid_n ?_
  delta f_X12_withIt at h
  refine g_aload_n (pc' := 1)  hc rfl rfl rfl rfl ?_
  refine g_iload_n (pc' := 2)  hc rfl rfl rfl ?_
  refine g_aload_n (pc' := 3)  hc rfl rfl rfl rfl ?_
  refine z_getR (pc' := 6)  hc rfl rfl rfl sh_75 rfl rfl ?_
  refine g_iload_n (pc' := 7)  hc rfl rfl rfl ?_
  refine g_iconst (pc' := 8) (v := (1 : Int32)) hc rfl zki_1 rfl ?_
  refine g_iadd (pc' := 9)  hc rfl rfl ?_
  refine g_iload_n (pc' := 10)  hc rfl rfl rfl ?_
  refine g_iadd (pc' := 11)  hc rfl rfl ?_
  have hb := (zwp_bnd h).1
  replace h := (zwp_bnd h).2
  refine z_iaload (pc' := 12) (v := (((I 91)) ((a1 + (1 : Int32)) + a2).toNatClampNeg)) hc rfl rfl sh_91 hb rfl rfl ?_
  refine z_virt (as := [.int a1, .int (((I 91)) ((a1 + (1 : Int32)) + a2).toNatClampNeg)]) (a := 75) (r := []) hc rfl rfl rfl rfl sh_75 rfl zco_201 rfl rfl rfl ?_
  refine ok_X12_atCell_75 (zdp hd rfl) (zwp_mono (zwp_bind h) ?_)
  rintro r1 h
  refine z_po (pc' := 15) (st' := [.int r1]) (v := (some (.int r1))) (L' := []) (K' := []) zco_201 rfl rfl rfl rfl rfl rfl rfl rfl ?_
  refine z_stat (as := [.int r1]) (r := []) hc rfl rfl rfl rfl zco_158 rfl rfl rfl ?_
  refine ok_X12_bits (zdp hd rfl) (zwp_mono (zwp_bind h) ?_)
  rintro r2 h
  refine z_po (pc' := 18) (st' := [.int r2]) (v := (some (.int r2))) (L' := []) (K' := []) zco_158 rfl rfl rfl rfl rfl rfl rfl rfl ?_
  refine g_iconst (pc' := 19) (v := (1 : Int32)) hc rfl zki_1 rfl ?_
  refine g_isub (pc' := 20)  hc rfl rfl ?_
  replace h := zws h
  exact g_ireturn hc rfl rfl rfl (fun _ => ⟨rfl, rfl⟩) h
set_option maxRecDepth 4000 in
theorem ok_X12_figure_75 {p q : Nat} {I : pI} {J : pJ} {a1 : Int32} {a2 : Int32} {Q : pQ} {d : Nat} (hd : 3 ≤ d) (h : zwp (f_X12_figure a1 a2 (I 75 3) (I 91) (I 75 0) (I 76) (I 77)) (fun w => match w with | (r, o0) => Q (.inl (some (.int r))) (zS p q I [(75, some 0, fun _ => o0)] J []))) : pm_call M cost zext d 220 [.ref 75, .int a1, .int a2] (pm_st 108 (shp p q) I J) Q := by
  obtain ⟨d, rfl⟩ := zd1 hd rfl
  have hc := pm_call_m (M := M) (cost := cost) zext_m d
  refine z_in (L := [(75, some 0, fun _ => (I 75 0))]) (K := []) (ls := [some (.ref 75), some (.int a1), some (.int a2)]) zmt_220 zco_220 rfl rfl (zid_s zid_n) zid_n ?_
  delta f_X12_figure at h
  refine g_aload_n (pc' := 1)  hc rfl rfl rfl rfl ?_
  refine g_iconst (pc' := 2) (v := (0 : Int32)) hc rfl zki_0 rfl ?_
  refine z_putI (pc' := 5) (L' := [(75, some 0, fun _ => (0 : Int32))]) hc rfl rfl rfl sh_75 rfl zft_12_0 rfl (fun h => Bool.noConfusion h) rfl rfl rfl ?_
  refine g_aload_n (pc' := 6)  hc rfl rfl rfl rfl ?_
  refine g_iload_n (pc' := 7)  hc rfl rfl rfl ?_
  refine z_virt (as := [.int a1]) (a := 75) (r := []) hc rfl rfl rfl rfl sh_75 rfl zco_216 rfl rfl rfl ?_
  refine ok_X12_isFigure_75 (zdp hd rfl) (zwp_mono (zwp_bind h) ?_)
  rintro ⟨r2, o1⟩ h
  refine z_po (pc' := 10) (st' := [.int r2]) (v := (some (.int r2))) (L' := [(75, some 0, fun _ => o1)]) (K' := []) zco_216 rfl rfl rfl rfl rfl rfl rfl rfl ?_
  refine g_if_eq (pc' := 13) hc rfl rfl (fun hx => ?_) (fun hx => ?_)
  · replace h := zwp_t h hx
    refine g_iconst (pc' := 24) (v := (0 : Int32)) hc rfl zki_0 rfl ?_
    replace h := zws h
    exact g_ireturn hc rfl rfl rfl (fun _ => ⟨rfl, rfl⟩) h
  · replace h := zwp_f h hx
    refine g_aload_n (pc' := 14)  hc rfl rfl rfl rfl ?_
    refine g_iload_n (pc' := 15)  hc rfl rfl rfl ?_
    refine g_bipush (pc' := 17) (v := (6 : Int32)) hc rfl zkb_6 rfl ?_
    refine z_virt (as := [.int a2, .int (6 : Int32)]) (a := 75) (r := []) hc rfl rfl rfl rfl sh_75 rfl zco_218 rfl rfl rfl ?_
    refine ok_X12_isWhat_75 (zdp hd rfl) (zwp_mono (zwp_bind h) ?_)
    rintro ⟨r4, o3⟩ h
    refine z_po (pc' := 20) (st' := [.int r4]) (v := (some (.int r4))) (L' := [(75, some 0, fun _ => o3)]) (K' := []) zco_218 rfl rfl rfl rfl rfl rfl rfl rfl ?_
    refine g_if_ne (pc' := 23) hc rfl rfl (fun hx => ?_) (fun hx => ?_)
    · replace h := zwp_f h hx
      refine g_iload_n (pc' := 26)  hc rfl rfl rfl ?_
      by_cases hx5 : a2 = (0 : Int32)
      · replace h := zwp_t h hx5
        refine z_switch (pc' := 64) hc rfl (by rw [hx5]; decide +kernel) ?_
        refine g_aload_n (pc' := 65)  hc rfl rfl rfl rfl ?_
        refine z_getR (pc' := 68)  hc rfl rfl rfl sh_75 rfl rfl ?_
        refine g_iconst (pc' := 69) (v := (1 : Int32)) hc rfl zki_1 rfl ?_
        refine g_iload_n (pc' := 70)  hc rfl rfl rfl ?_
        refine g_iadd (pc' := 71)  hc rfl rfl ?_
        have hb := (zwp_bnd h).1
        replace h := (zwp_bnd h).2
        refine z_iaload (pc' := 72) (v := (((I 91)) ((1 : Int32) + a1).toNatClampNeg)) hc rfl rfl sh_91 hb rfl rfl ?_
        replace h := zws h
        exact g_ireturn hc rfl rfl rfl (fun _ => ⟨rfl, rfl⟩) h
      replace h := zwp_f h hx5
      by_cases hx6 : a2 = (1 : Int32)
      · replace h := zwp_t h hx6
        refine z_switch (pc' := 73) hc rfl (by rw [hx6]; decide +kernel) ?_
        refine g_aload_n (pc' := 74)  hc rfl rfl rfl rfl ?_
        refine z_getR (pc' := 77)  hc rfl rfl rfl sh_75 rfl rfl ?_
        refine g_iload_n (pc' := 78)  hc rfl rfl rfl ?_
        have hb := (zwp_bnd h).1
        replace h := (zwp_bnd h).2
        refine z_iaload (pc' := 79) (v := (((I 76)) a1.toNatClampNeg)) hc rfl rfl sh_76 hb rfl rfl ?_
        replace h := zws h
        exact g_ireturn hc rfl rfl rfl (fun _ => ⟨rfl, rfl⟩) h
      replace h := zwp_f h hx6
      by_cases hx7 : a2 = (2 : Int32)
      · replace h := zwp_t h hx7
        refine z_switch (pc' := 80) hc rfl (by rw [hx7]; decide +kernel) ?_
        refine g_aload_n (pc' := 81)  hc rfl rfl rfl rfl ?_
        refine z_getR (pc' := 84)  hc rfl rfl rfl sh_75 rfl rfl ?_
        refine g_bipush (pc' := 86) (v := (9 : Int32)) hc rfl zkb_9 rfl ?_
        refine g_iload_n (pc' := 87)  hc rfl rfl rfl ?_
        refine g_iadd (pc' := 88)  hc rfl rfl ?_
        have hb := (zwp_bnd h).1
        replace h := (zwp_bnd h).2
        refine z_iaload (pc' := 89) (v := (((I 91)) ((9 : Int32) + a1).toNatClampNeg)) hc rfl rfl sh_91 hb rfl rfl ?_
        replace h := zws h
        exact g_ireturn hc rfl rfl rfl (fun _ => ⟨rfl, rfl⟩) h
      replace h := zwp_f h hx7
      by_cases hx8 : a2 = (3 : Int32)
      · replace h := zwp_t h hx8
        refine z_switch (pc' := 90) hc rfl (by rw [hx8]; decide +kernel) ?_
        refine g_aload_n (pc' := 91)  hc rfl rfl rfl rfl ?_
        refine z_getR (pc' := 94)  hc rfl rfl rfl sh_75 rfl rfl ?_
        refine g_bipush (pc' := 96) (v := (17 : Int32)) hc rfl zkb_17 rfl ?_
        refine g_iload_n (pc' := 97)  hc rfl rfl rfl ?_
        refine g_iadd (pc' := 98)  hc rfl rfl ?_
        have hb := (zwp_bnd h).1
        replace h := (zwp_bnd h).2
        refine z_iaload (pc' := 99) (v := (((I 91)) ((17 : Int32) + a1).toNatClampNeg)) hc rfl rfl sh_91 hb rfl rfl ?_
        replace h := zws h
        exact g_ireturn hc rfl rfl rfl (fun _ => ⟨rfl, rfl⟩) h
      replace h := zwp_f h hx8
      by_cases hx9 : a2 = (4 : Int32)
      · replace h := zwp_t h hx9
        refine z_switch (pc' := 100) hc rfl (by rw [hx9]; decide +kernel) ?_
        refine g_aload_n (pc' := 101)  hc rfl rfl rfl rfl ?_
        refine g_iconst (pc' := 102) (v := (0 : Int32)) hc rfl zki_0 rfl ?_
        refine g_iload_n (pc' := 103)  hc rfl rfl rfl ?_
        refine z_virt (as := [.int (0 : Int32), .int a1]) (a := 75) (r := []) hc rfl rfl rfl rfl sh_75 rfl zco_203 rfl rfl rfl ?_
        refine ok_X12_stepOf_75 (zdp hd rfl) (zwp_mono (zwp_bind h) ?_)
        rintro r11 h
        refine z_po (pc' := 106) (st' := [.int r11]) (v := (some (.int r11))) (L' := [(75, some 0, fun _ => o3)]) (K' := []) zco_203 rfl rfl rfl rfl rfl rfl rfl rfl ?_
        replace h := zws h
        exact g_ireturn hc rfl rfl rfl (fun _ => ⟨rfl, rfl⟩) h
      replace h := zwp_f h hx9
      by_cases hx10 : a2 = (5 : Int32)
      · replace h := zwp_t h hx10
        refine z_switch (pc' := 107) hc rfl (by rw [hx10]; decide +kernel) ?_
        refine g_aload_n (pc' := 108)  hc rfl rfl rfl rfl ?_
        refine z_getR (pc' := 111)  hc rfl rfl rfl sh_75 rfl rfl ?_
        refine g_bipush (pc' := 113) (v := (25 : Int32)) hc rfl zkb_25 rfl ?_
        refine g_iload_n (pc' := 114)  hc rfl rfl rfl ?_
        refine g_iadd (pc' := 115)  hc rfl rfl ?_
        have hb := (zwp_bnd h).1
        replace h := (zwp_bnd h).2
        refine z_iaload (pc' := 116) (v := (((I 91)) ((25 : Int32) + a1).toNatClampNeg)) hc rfl rfl sh_91 hb rfl rfl ?_
        replace h := zws h
        exact g_ireturn hc rfl rfl rfl (fun _ => ⟨rfl, rfl⟩) h
      replace h := zwp_f h hx10
      refine z_switch (pc' := 117) hc rfl (zsw_df (told := [(0 : Int32), (1 : Int32), (2 : Int32), (3 : Int32), (4 : Int32), (5 : Int32)]) (by decide +kernel) (by decide) rfl (zne_c hx5 (zne_c hx6 (zne_c hx7 (zne_c hx8 (zne_c hx9 (zne_c hx10 zne_n))))))) ?_
      refine g_aload_n (pc' := 118)  hc rfl rfl rfl rfl ?_
      refine g_iconst (pc' := 119) (v := (0 : Int32)) hc rfl zki_0 rfl ?_
      refine g_iload_n (pc' := 120)  hc rfl rfl rfl ?_
      refine z_virt (as := [.int (0 : Int32), .int a1]) (a := 75) (r := []) hc rfl rfl rfl rfl sh_75 rfl zco_202 rfl rfl rfl ?_
      refine ok_X12_withIt_75 (zdp hd rfl) (zwp_mono (zwp_bind h) ?_)
      rintro r12 h
      refine z_po (pc' := 123) (st' := [.int r12]) (v := (some (.int r12))) (L' := [(75, some 0, fun _ => o3)]) (K' := []) zco_202 rfl rfl rfl rfl rfl rfl rfl rfl ?_
      replace h := zws h
      exact g_ireturn hc rfl rfl rfl (fun _ => ⟨rfl, rfl⟩) h
    · replace h := zwp_t h hx
      refine g_iconst (pc' := 24) (v := (0 : Int32)) hc rfl zki_0 rfl ?_
      replace h := zws h
      exact g_ireturn hc rfl rfl rfl (fun _ => ⟨rfl, rfl⟩) h
set_option maxRecDepth 4000 in
theorem ok_X12_isCell_75 {p q : Nat} {I : pI} {J : pJ} {a1 : Int32} {Q : pQ} {d : Nat} (hd : 2 ≤ d) (h : zwp (f_X12_isCell a1 (I 75 2) (I 75 0) (I 75 1)) (fun w => match w with | (r, o0) => Q (.inl (some (.int r))) (zS p q I [(75, some 0, fun _ => o0)] J []))) : pm_call M cost zext d 217 [.ref 75, .int a1] (pm_st 108 (shp p q) I J) Q := by
  obtain ⟨d, rfl⟩ := zd1 hd rfl
  have hc := pm_call_m (M := M) (cost := cost) zext_m d
  refine z_in (L := [(75, some 0, fun _ => (I 75 0))]) (K := []) (ls := [some (.ref 75), some (.int a1)]) zmt_217 zco_217 rfl rfl (zid_s zid_n) zid_n ?_
  delta f_X12_isCell at h
  refine g_aload_n (pc' := 1)  hc rfl rfl rfl rfl ?_
  refine g_iload_n (pc' := 2)  hc rfl rfl rfl ?_
  refine zjn (G := (fun (j1 : Int32) => pm_ev C_X12_isCell (d + 1) (pm_call M cost zext d) cost (false, false) 108 0 0 Q 23 [some (.ref 75), some (.int a1)] [.int j1, .ref 75] 0 0 (zS p q I [(75, some 0, fun _ => (I 75 0))] J []))) (zwp_bind h) ?_ (fun h => ?_)
  · rintro j1 h
    refine g_iconst (pc' := 24) (v := (1 : Int32)) hc rfl zki_1 rfl ?_
    refine z_virt (as := [.int j1, .int (1 : Int32)]) (a := 75) (r := []) hc rfl rfl rfl rfl sh_75 rfl zco_153 rfl rfl rfl ?_
    refine ok_X12_right_75 (zdp hd rfl) (zwp_mono (zwp_bind h) ?_)
    rintro ⟨r3, o2⟩ h
    refine z_po (pc' := 27) (st' := [.int r3]) (v := (some (.int r3))) (L' := [(75, some 0, fun _ => o2)]) (K' := []) zco_153 rfl rfl rfl rfl rfl rfl rfl rfl ?_
    have hz := (zwp_bol h).1
    replace h := (zwp_bol h).2
    replace h := zws h
    exact g_ireturn hc rfl rfl hz (fun _ => ⟨rfl, rfl⟩) h
  refine g_if_lt (pc' := 5) hc rfl rfl (fun hx => ?_) (fun hx => ?_)
  · replace h := zwp_t h hx
    refine g_iconst (pc' := 23) (v := (0 : Int32)) hc rfl zki_0 rfl ?_
    replace h := zws h
    exact h
  · replace h := zwp_f h hx
    refine g_iload_n (pc' := 6)  hc rfl rfl rfl ?_
    refine g_aload_n (pc' := 7)  hc rfl rfl rfl rfl ?_
    refine z_getI (pc' := 10) (v := (I 75 1)) hc rfl rfl rfl sh_75 rfl rfl rfl ?_
    refine g_aload_n (pc' := 11)  hc rfl rfl rfl rfl ?_
    refine z_getI (pc' := 14) (v := (I 75 2)) hc rfl rfl rfl sh_75 rfl rfl rfl ?_
    refine g_imul (pc' := 15)  hc rfl rfl ?_
    refine g_icmp_ge (pc' := 18) hc rfl rfl (fun hx => ?_) (fun hx => ?_)
    · replace h := zwp_t h hx
      refine g_iconst (pc' := 23) (v := (0 : Int32)) hc rfl zki_0 rfl ?_
      replace h := zws h
      exact h
    · replace h := zwp_f h hx
      refine g_iconst (pc' := 19) (v := (1 : Int32)) hc rfl zki_1 rfl ?_
      refine g_goto hc rfl ?_
      replace h := zws h
      exact h
set_option maxRecDepth 4000 in
theorem ok_X12_seenFrom_75 {p q : Nat} {I : pI} {J : pJ} {a1 : Int32} {Q : pQ} {d : Nat} (hd : 2 ≤ d) (h : zwp (f_X12_seenFrom a1 (I 75 3) (I 91) (I 75 2) (I 75 1)) (fun r => Q (.inl (some (.int r))) (zS p q I [] J []))) : pm_call M cost zext d 221 [.ref 75, .int a1] (pm_st 108 (shp p q) I J) Q := by
  obtain ⟨d, rfl⟩ := zd1 hd rfl
  have hc := pm_call_m (M := M) (cost := cost) zext_m d
  refine z_in (L := []) (K := []) (ls := [some (.ref 75), some (.int a1), none, none, none]) zmt_221 zco_221 rfl rfl zid_n zid_n ?_
  delta f_X12_seenFrom at h
  refine g_aload_n (pc' := 1)  hc rfl rfl rfl rfl ?_
  refine g_iconst (pc' := 2) (v := (0 : Int32)) hc rfl zki_0 rfl ?_
  refine g_iload_n (pc' := 3)  hc rfl rfl rfl ?_
  refine z_virt (as := [.int (0 : Int32), .int a1]) (a := 75) (r := []) hc rfl rfl rfl rfl sh_75 rfl zco_201 rfl rfl rfl ?_
  refine ok_X12_atCell_75 (zdp hd rfl) (zwp_mono (zwp_bind h) ?_)
  rintro r1 h
  refine z_po (pc' := 6) (st' := [.int r1]) (v := (some (.int r1))) (L' := []) (K' := []) zco_201 rfl rfl rfl rfl rfl rfl rfl rfl ?_
  refine g_istore_n (pc' := 7) (ls1 := [some (.ref 75), some (.int a1), some (.int r1), none, none]) hc rfl (zlt rfl) rfl rfl ?_
  refine g_iconst (pc' := 8) (v := (1 : Int32)) hc rfl zki_1 rfl ?_
  refine g_istore_n (pc' := 9) (ls1 := [some (.ref 75), some (.int a1), some (.int r1), some (.int (1 : Int32)), none]) hc rfl (zlt rfl) rfl rfl ?_
  refine zjn (G := (fun (y5 : Int32) => ∀ z6 : Option Value, znl z6 = true → ∀ z7 : Option Value, znl z7 = true → pm_ev C_X12_seenFrom (d + 1) (pm_call M cost zext d) cost (false, false) 108 0 0 Q 69 [some (.ref 75), some (.int a1), some (.int y5), z6, z7] [] 0 0 (zS p q I [] J []))) (zwp_bind h) ?_ (fun h => ?_)
  · rintro y5 h z6 hz6 z7 hz7
    refine g_iload_n (pc' := 70)  hc rfl rfl rfl ?_
    replace h := zws h
    exact g_ireturn hc rfl rfl rfl (fun _ => ⟨rfl, rfl⟩) h
  refine zitr_ev (G := (fun (g : Int32 × Int32) => match g with | (x2, x3) => ∀ z4 : Option Value, znl z4 = true → pm_ev C_X12_seenFrom (d + 1) (pm_call M cost zext d) cost (false, false) 108 0 0 Q 9 [some (.ref 75), some (.int a1), some (.int x2), some (.int x3), z4] [] 0 0 (zS p q I [] J []))) ?_ zFU (r1, (1 : Int32)) h none rfl
  rintro ⟨x2, x3⟩ h z4 hz4
  refine g_iload_n (pc' := 10)  hc rfl rfl rfl ?_
  refine g_iconst (pc' := 11) (v := (5 : Int32)) hc rfl zki_5 rfl ?_
  refine g_icmp_ge (pc' := 14) hc rfl rfl (fun hx => ?_) (fun hx => ?_)
  · replace h := zwp_t h hx
    replace h := zwp_r h
    exact h (some (.int x3)) rfl z4 hz4
  · replace h := zwp_f h hx
    refine g_aload_n (pc' := 15)  hc rfl rfl rfl rfl ?_
    refine g_iload_n (pc' := 16)  hc rfl rfl rfl ?_
    refine g_iload_n (pc' := 17)  hc rfl rfl rfl ?_
    refine z_virt (as := [.int a1, .int x3]) (a := 75) (r := []) hc rfl rfl rfl rfl sh_75 rfl zco_207 rfl rfl rfl ?_
    refine ok_X12_beside_75 (zdp hd rfl) (zwp_mono (zwp_bind h) ?_)
    rintro r8 h
    refine z_po (pc' := 20) (st' := [.int r8]) (v := (some (.int r8))) (L' := []) (K' := []) zco_207 rfl rfl rfl rfl rfl rfl rfl rfl ?_
    refine g_istore (pc' := 22) (ls1 := [some (.ref 75), some (.int a1), some (.int x2), some (.int x3), some (.int r8)]) hc rfl (zlt rfl) rfl rfl ?_
    refine zjn (G := (fun (y11 : Int32) => ∀ z12 : Option Value, znl z12 = true → pm_ev C_X12_seenFrom (d + 1) (pm_call M cost zext d) cost (false, false) 108 0 0 Q 63 [some (.ref 75), some (.int a1), some (.int y11), some (.int x3), z12] [] 0 0 (zS p q I [] J []))) (zwp_bind h) ?_ (fun h => ?_)
    · rintro y11 h z12 hz12
      refine g_iinc (pc' := 66) (ls1 := [some (.ref 75), some (.int a1), some (.int y11), some (.int (x3 + (1 : Int32))), z12]) hc rfl rfl zki_1 (zlt rfl) rfl rfl ?_
      refine g_goto hc rfl ?_
      replace h := zwp_l h
      exact h z12 hz12
    refine zitr_ev (G := (fun (g : Int32 × Int32) => match g with | (x9, x10) => pm_ev C_X12_seenFrom (d + 1) (pm_call M cost zext d) cost (false, false) 108 0 0 Q 22 [some (.ref 75), some (.int a1), some (.int x9), some (.int x3), some (.int x10)] [] 0 0 (zS p q I [] J []))) ?_ zFU (x2, r8) h
    rintro ⟨x9, x10⟩ h
    refine g_iload (pc' := 24)  hc rfl rfl rfl ?_
    refine g_iconst (pc' := 25) (v := (-1 : Int32)) hc rfl zki_m1 rfl ?_
    refine g_icmp_eq (pc' := 28) hc rfl rfl (fun hx => ?_) (fun hx => ?_)
    · replace h := zwp_t h hx
      replace h := zwp_r h
      exact h (some (.int x10)) rfl
    · replace h := zwp_f h hx
      refine g_aload_n (pc' := 29)  hc rfl rfl rfl rfl ?_
      refine z_getR (pc' := 32)  hc rfl rfl rfl sh_75 rfl rfl ?_
      refine g_bipush (pc' := 34) (v := (33 : Int32)) hc rfl zkb_33 rfl ?_
      refine g_iload (pc' := 36)  hc rfl rfl rfl ?_
      refine g_iadd (pc' := 37)  hc rfl rfl ?_
      have hb := (zwp_bnd h).1
      replace h := (zwp_bnd h).2
      refine z_iaload (pc' := 38) (v := (((I 91)) ((33 : Int32) + x10).toNatClampNeg)) hc rfl rfl sh_91 hb rfl rfl ?_
      refine g_if_ne (pc' := 41) hc rfl rfl (fun hx => ?_) (fun hx => ?_)
      · replace h := zwp_f h hx
        replace h := zwp_r h
        exact h (some (.int x10)) rfl
      · replace h := zwp_t h hx
        refine g_iload_n (pc' := 42)  hc rfl rfl rfl ?_
        refine g_aload_n (pc' := 43)  hc rfl rfl rfl rfl ?_
        refine g_iconst (pc' := 44) (v := (0 : Int32)) hc rfl zki_0 rfl ?_
        refine g_iload (pc' := 46)  hc rfl rfl rfl ?_
        refine z_virt (as := [.int (0 : Int32), .int x10]) (a := 75) (r := [.int x9]) hc rfl rfl rfl rfl sh_75 rfl zco_201 rfl rfl rfl ?_
        refine ok_X12_atCell_75 (zdp hd rfl) (zwp_mono (zwp_bind h) ?_)
        rintro r13 h
        refine z_po (pc' := 49) (st' := [.int r13, .int x9]) (v := (some (.int r13))) (L' := []) (K' := []) zco_201 rfl rfl rfl rfl rfl rfl rfl rfl ?_
        refine g_ior (pc' := 50)  hc rfl rfl ?_
        refine g_istore_n (pc' := 51) (ls1 := [some (.ref 75), some (.int a1), some (.int (x9 ||| r13)), some (.int x3), some (.int x10)]) hc rfl (zlt rfl) rfl rfl ?_
        refine g_aload_n (pc' := 52)  hc rfl rfl rfl rfl ?_
        refine g_iload (pc' := 54)  hc rfl rfl rfl ?_
        refine g_iload_n (pc' := 55)  hc rfl rfl rfl ?_
        refine z_virt (as := [.int x10, .int x3]) (a := 75) (r := []) hc rfl rfl rfl rfl sh_75 rfl zco_207 rfl rfl rfl ?_
        refine ok_X12_beside_75 (zdp hd rfl) (zwp_mono (zwp_bind h) ?_)
        rintro r14 h
        refine z_po (pc' := 58) (st' := [.int r14]) (v := (some (.int r14))) (L' := []) (K' := []) zco_207 rfl rfl rfl rfl rfl rfl rfl rfl ?_
        refine g_istore (pc' := 60) (ls1 := [some (.ref 75), some (.int a1), some (.int (x9 ||| r13)), some (.int x3), some (.int r14)]) hc rfl (zlt rfl) rfl rfl ?_
        refine g_goto hc rfl ?_
        replace h := zwp_l h
        exact h
set_option maxRecDepth 4000 in
theorem ok_X12_cell_75 {p q : Nat} {I : pI} {J : pJ} {a1 : Int32} {a2 : Int32} {Q : pQ} {d : Nat} (hd : 3 ≤ d) (h : zwp (f_X12_cell a1 a2 (I 75 3) (I 91) (I 78) (I 75 4) (I 75 2) (I 75 0) (I 75 1)) (fun w => match w with | (r, o0) => Q (.inl (some (.int r))) (zS p q I [(75, some 0, fun _ => o0)] J []))) : pm_call M cost zext d 222 [.ref 75, .int a1, .int a2] (pm_st 108 (shp p q) I J) Q := by
  obtain ⟨d, rfl⟩ := zd1 hd rfl
  have hc := pm_call_m (M := M) (cost := cost) zext_m d
  refine z_in (L := [(75, some 0, fun _ => (I 75 0))]) (K := []) (ls := [some (.ref 75), some (.int a1), some (.int a2), none, none]) zmt_222 zco_222 rfl rfl (zid_s zid_n) zid_n ?_
  delta f_X12_cell at h
  refine g_aload_n (pc' := 1)  hc rfl rfl rfl rfl ?_
  refine g_iconst (pc' := 2) (v := (0 : Int32)) hc rfl zki_0 rfl ?_
  refine z_putI (pc' := 5) (L' := [(75, some 0, fun _ => (0 : Int32))]) hc rfl rfl rfl sh_75 rfl zft_12_0 rfl (fun h => Bool.noConfusion h) rfl rfl rfl ?_
  refine g_aload_n (pc' := 6)  hc rfl rfl rfl rfl ?_
  refine g_iload_n (pc' := 7)  hc rfl rfl rfl ?_
  refine z_virt (as := [.int a1]) (a := 75) (r := []) hc rfl rfl rfl rfl sh_75 rfl zco_217 rfl rfl rfl ?_
  refine ok_X12_isCell_75 (zdp hd rfl) (zwp_mono (zwp_bind h) ?_)
  rintro ⟨r2, o1⟩ h
  refine z_po (pc' := 10) (st' := [.int r2]) (v := (some (.int r2))) (L' := [(75, some 0, fun _ => o1)]) (K' := []) zco_217 rfl rfl rfl rfl rfl rfl rfl rfl ?_
  refine g_if_eq (pc' := 13) hc rfl rfl (fun hx => ?_) (fun hx => ?_)
  · replace h := zwp_t h hx
    refine g_iconst (pc' := 23) (v := (0 : Int32)) hc rfl zki_0 rfl ?_
    replace h := zws h
    exact g_ireturn hc rfl rfl rfl (fun _ => ⟨rfl, rfl⟩) h
  · replace h := zwp_f h hx
    refine g_aload_n (pc' := 14)  hc rfl rfl rfl rfl ?_
    refine g_iload_n (pc' := 15)  hc rfl rfl rfl ?_
    refine g_iconst (pc' := 16) (v := (3 : Int32)) hc rfl zki_3 rfl ?_
    refine z_virt (as := [.int a2, .int (3 : Int32)]) (a := 75) (r := []) hc rfl rfl rfl rfl sh_75 rfl zco_218 rfl rfl rfl ?_
    refine ok_X12_isWhat_75 (zdp hd rfl) (zwp_mono (zwp_bind h) ?_)
    rintro ⟨r4, o3⟩ h
    refine z_po (pc' := 19) (st' := [.int r4]) (v := (some (.int r4))) (L' := [(75, some 0, fun _ => o3)]) (K' := []) zco_218 rfl rfl rfl rfl rfl rfl rfl rfl ?_
    refine g_if_ne (pc' := 22) hc rfl rfl (fun hx => ?_) (fun hx => ?_)
    · replace h := zwp_f h hx
      refine g_iconst (pc' := 25) (v := (0 : Int32)) hc rfl zki_0 rfl ?_
      refine g_istore_n (pc' := 26) (ls1 := [some (.ref 75), some (.int a1), some (.int a2), some (.int (0 : Int32)), none]) hc rfl (zlt rfl) rfl rfl ?_
      refine g_iconst (pc' := 27) (v := (0 : Int32)) hc rfl zki_0 rfl ?_
      refine g_istore (pc' := 29) (ls1 := [some (.ref 75), some (.int a1), some (.int a2), some (.int (0 : Int32)), some (.int (0 : Int32))]) hc rfl (zlt rfl) rfl rfl ?_
      refine zjn (G := (fun (y7 : Int32) => ∀ z8 : Option Value, znl z8 = true → pm_ev C_X12_cell (d + 1) (pm_call M cost zext d) cost (false, false) 108 0 0 Q 66 [some (.ref 75), some (.int a1), some (.int a2), some (.int y7), z8] [] 0 0 (zS p q I [(75, some 0, fun _ => o3)] J []))) (zwp_bind h) ?_ (fun h => ?_)
      · rintro y7 h z8 hz8
        refine g_iload_n (pc' := 67)  hc rfl rfl rfl ?_
        refine g_if_ne (pc' := 70) hc rfl rfl (fun hx => ?_) (fun hx => ?_)
        · replace h := zwp_f h hx
          refine g_iload_n (pc' := 83)  hc rfl rfl rfl ?_
          refine g_iconst (pc' := 84) (v := (1 : Int32)) hc rfl zki_1 rfl ?_
          refine g_icmp_ne (pc' := 87) hc rfl rfl (fun hx => ?_) (fun hx => ?_)
          · replace h := zwp_f h hx
            refine g_iload_n (pc' := 97)  hc rfl rfl rfl ?_
            refine g_iconst (pc' := 98) (v := (2 : Int32)) hc rfl zki_2 rfl ?_
            refine g_icmp_ne (pc' := 101) hc rfl rfl (fun hx => ?_) (fun hx => ?_)
            · replace h := zwp_f h hx
              refine g_aload_n (pc' := 106)  hc rfl rfl rfl rfl ?_
              refine g_iload_n (pc' := 107)  hc rfl rfl rfl ?_
              refine z_virt (as := [.int a1]) (a := 75) (r := []) hc rfl rfl rfl rfl sh_75 rfl zco_221 rfl rfl rfl ?_
              refine ok_X12_seenFrom_75 (zdp hd rfl) (zwp_mono (zwp_bind h) ?_)
              rintro r9 h
              refine z_po (pc' := 110) (st' := [.int r9]) (v := (some (.int r9))) (L' := [(75, some 0, fun _ => o3)]) (K' := []) zco_221 rfl rfl rfl rfl rfl rfl rfl rfl ?_
              replace h := zws h
              exact g_ireturn hc rfl rfl rfl (fun _ => ⟨rfl, rfl⟩) h
            · replace h := zwp_t h hx
              refine g_iload_n (pc' := 102)  hc rfl rfl rfl ?_
              refine g_goto hc rfl ?_
              replace h := zws h
              exact g_ireturn hc rfl rfl rfl (fun _ => ⟨rfl, rfl⟩) h
          · replace h := zwp_t h hx
            refine g_aload_n (pc' := 88)  hc rfl rfl rfl rfl ?_
            refine g_iconst (pc' := 89) (v := (0 : Int32)) hc rfl zki_0 rfl ?_
            refine g_iload_n (pc' := 90)  hc rfl rfl rfl ?_
            refine z_virt (as := [.int (0 : Int32), .int a1]) (a := 75) (r := []) hc rfl rfl rfl rfl sh_75 rfl zco_201 rfl rfl rfl ?_
            refine ok_X12_atCell_75 (zdp hd rfl) (zwp_mono (zwp_bind h) ?_)
            rintro r10 h
            refine z_po (pc' := 93) (st' := [.int r10]) (v := (some (.int r10))) (L' := [(75, some 0, fun _ => o3)]) (K' := []) zco_201 rfl rfl rfl rfl rfl rfl rfl rfl ?_
            refine g_goto hc rfl ?_
            replace h := zws h
            exact g_ireturn hc rfl rfl rfl (fun _ => ⟨rfl, rfl⟩) h
        · replace h := zwp_t h hx
          refine g_aload_n (pc' := 71)  hc rfl rfl rfl rfl ?_
          refine z_getR (pc' := 74)  hc rfl rfl rfl sh_75 rfl rfl ?_
          refine g_bipush (pc' := 76) (v := (33 : Int32)) hc rfl zkb_33 rfl ?_
          refine g_iload_n (pc' := 77)  hc rfl rfl rfl ?_
          refine g_iadd (pc' := 78)  hc rfl rfl ?_
          have hb := (zwp_bnd h).1
          replace h := (zwp_bnd h).2
          refine z_iaload (pc' := 79) (v := (((I 91)) ((33 : Int32) + a1).toNatClampNeg)) hc rfl rfl sh_91 hb rfl rfl ?_
          refine g_goto hc rfl ?_
          replace h := zws h
          exact g_ireturn hc rfl rfl rfl (fun _ => ⟨rfl, rfl⟩) h
      refine zitr_ev (G := (fun (g : Int32 × Int32) => match g with | (x5, x6) => pm_ev C_X12_cell (d + 1) (pm_call M cost zext d) cost (false, false) 108 0 0 Q 29 [some (.ref 75), some (.int a1), some (.int a2), some (.int x5), some (.int x6)] [] 0 0 (zS p q I [(75, some 0, fun _ => o3)] J []))) ?_ zFU ((0 : Int32), (0 : Int32)) h
      rintro ⟨x5, x6⟩ h
      refine g_iload (pc' := 31)  hc rfl rfl rfl ?_
      refine g_aload_n (pc' := 32)  hc rfl rfl rfl rfl ?_
      refine z_getI (pc' := 35) (v := (I 75 4)) hc rfl rfl rfl sh_75 rfl rfl rfl ?_
      refine g_icmp_ge (pc' := 38) hc rfl rfl (fun hx => ?_) (fun hx => ?_)
      · replace h := zwp_t h hx
        replace h := zwp_r h
        exact h (some (.int x6)) rfl
      · replace h := zwp_f h hx
        refine g_iload_n (pc' := 39)  hc rfl rfl rfl ?_
        refine g_aload_n (pc' := 40)  hc rfl rfl rfl rfl ?_
        refine z_getR (pc' := 43)  hc rfl rfl rfl sh_75 rfl rfl ?_
        refine g_iload (pc' := 45)  hc rfl rfl rfl ?_
        have hb := (zwp_bnd h).1
        replace h := (zwp_bnd h).2
        refine z_iaload (pc' := 46) (v := (((I 78)) x6.toNatClampNeg)) hc rfl rfl sh_78 hb rfl rfl ?_
        refine g_iload_n (pc' := 47)  hc rfl rfl rfl ?_
        refine zjn (G := (fun (j11 : Int32) => pm_ev C_X12_cell (d + 1) (pm_call M cost zext d) cost (false, false) 108 0 0 Q 58 [some (.ref 75), some (.int a1), some (.int a2), some (.int x5), some (.int x6)] [.int j11, .int x5] 0 0 (zS p q I [(75, some 0, fun _ => o3)] J []))) (zwp_bind h) ?_ (fun h => ?_)
        · rintro j11 h
          refine g_ior (pc' := 59)  hc rfl rfl ?_
          refine g_istore_n (pc' := 60) (ls1 := [some (.ref 75), some (.int a1), some (.int a2), some (.int (x5 ||| j11)), some (.int x6)]) hc rfl (zlt rfl) rfl rfl ?_
          refine g_iinc (pc' := 63) (ls1 := [some (.ref 75), some (.int a1), some (.int a2), some (.int (x5 ||| j11)), some (.int (x6 + (1 : Int32)))]) hc rfl rfl zki_1 (zlt rfl) rfl rfl ?_
          refine g_goto hc rfl ?_
          replace h := zwp_l h
          exact h
        refine g_icmp_ne (pc' := 50) hc rfl rfl (fun hx => ?_) (fun hx => ?_)
        · replace h := zwp_f h hx
          refine g_iconst (pc' := 58) (v := (0 : Int32)) hc rfl zki_0 rfl ?_
          replace h := zws h
          exact h
        · replace h := zwp_t h hx
          refine g_iconst (pc' := 51) (v := (1 : Int32)) hc rfl zki_1 rfl ?_
          refine g_iload (pc' := 53)  hc rfl rfl rfl ?_
          refine g_ishl (pc' := 54)  hc rfl rfl ?_
          refine g_goto hc rfl ?_
          replace h := zws h
          exact h
    · replace h := zwp_t h hx
      refine g_iconst (pc' := 23) (v := (0 : Int32)) hc rfl zki_0 rfl ?_
      replace h := zws h
      exact g_ireturn hc rfl rfl rfl (fun _ => ⟨rfl, rfl⟩) h
set_option maxRecDepth 4000 in
theorem ok_X12_refuses_75 {p q : Nat} {I : pI} {J : pJ} {a1 : Int32} {Q : pQ} {d : Nat} (hd : 1 ≤ d) (h : zwp (f_X12_refuses a1 (I 82)) (fun w => match w with | (r, o0) => Q (.inl (some (.int r))) (zS p q I [(82, none, o0)] J []))) : pm_call M cost zext d 194 [.ref 75, .int a1] (pm_st 108 (shp p q) I J) Q := by
  obtain ⟨d, rfl⟩ := zd1 hd rfl
  have hc := pm_call_m (M := M) (cost := cost) zext_m d
  refine z_in (L := [(82, none, (I 82))]) (K := []) (ls := [some (.ref 75), some (.int a1)]) zmt_194 zco_194 rfl rfl (zid_a zid_n) zid_n ?_
  delta f_X12_refuses at h
  refine g_aload_n (pc' := 1)  hc rfl rfl rfl rfl ?_
  refine z_getR (pc' := 4)  hc rfl rfl rfl sh_75 rfl rfl ?_
  refine g_iload_n (pc' := 5)  hc rfl rfl rfl ?_
  refine g_dup2 (pc' := 6)  hc rfl rfl rfl rfl ?_
  have hb := (zwp_bnd h).1
  replace h := (zwp_bnd h).2
  refine z_iaload (pc' := 7) (v := (((I 82)) a1.toNatClampNeg)) hc rfl rfl sh_82 hb rfl rfl ?_
  refine g_iconst (pc' := 8) (v := (1 : Int32)) hc rfl zki_1 rfl ?_
  refine g_iadd (pc' := 9)  hc rfl rfl ?_
  have hb := (zwp_bnd h).1
  replace h := (zwp_bnd h).2
  refine z_iastore (pc' := 10) (g := (I 82)) (L' := [(82, none, (upd ((I 82)) a1.toNatClampNeg ((((I 82)) a1.toNatClampNeg) + (1 : Int32))))]) hc rfl rfl sh_82 hb rfl rfl rfl rfl ?_
  refine g_iconst (pc' := 11) (v := (-1 : Int32)) hc rfl zki_m1 rfl ?_
  replace h := zws h
  exact g_ireturn hc rfl rfl rfl (fun _ => ⟨rfl, rfl⟩) h
set_option maxRecDepth 4000 in
theorem ok_X12_keeps_75 {p q : Nat} {I : pI} {J : pJ} {Q : pQ} {d : Nat} (hd : 1 ≤ d) (h : zwp (f_X12_keeps (I 75 50) (I 92) (I 91)) (fun w => match w with | (o0, o1) => Q (.inl none) (zS p q I [(75, some 50, fun _ => o0), (92, none, o1)] J []))) : pm_call M cost zext d 193 [.ref 75] (pm_st 108 (shp p q) I J) Q := by
  obtain ⟨d, rfl⟩ := zd1 hd rfl
  have hc := pm_call_m (M := M) (cost := cost) zext_m d
  refine z_in (L := [(75, some 50, fun _ => (I 75 50)), (92, none, (I 92))]) (K := []) (ls := [some (.ref 75), none]) zmt_193 zco_193 rfl rfl (zid_s (zid_a zid_n)) zid_n ?_
  delta f_X12_keeps at h
  refine g_aload_n (pc' := 1)  hc rfl rfl rfl rfl ?_
  refine z_getI (pc' := 4) (v := (I 75 50)) hc rfl rfl rfl sh_75 rfl rfl rfl ?_
  refine g_bipush (pc' := 6) (v := (40 : Int32)) hc rfl zkb_40 rfl ?_
  refine zjn (G := (fun (g : Int32 × (Nat → Int32)) => match g with | (j2, j3) => ∀ z1 : Option Value, znl z1 = true → pm_ev C_X12_keeps (d + 1) (pm_call M cost zext d) cost (false, false) 108 0 0 Q 50 [some (.ref 75), z1] [] 0 0 (zS p q I [(75, some 50, fun _ => j2), (92, none, j3)] J []))) (zwp_bind h) ?_ (fun h => ?_)
  · rintro ⟨j2, j3⟩ h z1 hz1
    refine g_iconst (pc' := 51) (v := (0 : Int32)) hc rfl zki_0 rfl ?_
    refine g_istore_n (pc' := 52) (ls1 := [some (.ref 75), some (.int (0 : Int32))]) hc rfl (zlt rfl) rfl rfl ?_
    refine zjn (G := (fun (y7 : (Nat → Int32)) => ∀ z6 : Option Value, znl z6 = true → pm_ev C_X12_keeps (d + 1) (pm_call M cost zext d) cost (false, false) 108 0 0 Q 84 [some (.ref 75), z6] [] 0 0 (zS p q I [(75, some 50, fun _ => j2), (92, none, y7)] J []))) (zwp_bind h) ?_ (fun h => ?_)
    · rintro y7 h z6 hz6
      refine g_aload_n (pc' := 85)  hc rfl rfl rfl rfl ?_
      refine g_dup (pc' := 86)  hc rfl rfl rfl ?_
      refine z_getI (pc' := 89) (v := j2) hc rfl rfl rfl sh_75 rfl rfl rfl ?_
      refine g_iconst (pc' := 90) (v := (1 : Int32)) hc rfl zki_1 rfl ?_
      refine g_iadd (pc' := 91)  hc rfl rfl ?_
      refine z_putI (pc' := 94) (L' := [(75, some 50, fun _ => (j2 + (1 : Int32))), (92, none, y7)]) hc rfl rfl rfl sh_75 rfl zft_12_50 rfl (fun h => Bool.noConfusion h) rfl rfl rfl ?_
      replace h := zws h
      exact g_return hc rfl rfl (fun _ => ⟨rfl, rfl⟩) h
    refine zitr_ev (G := (fun (g : Int32 × (Nat → Int32)) => match g with | (x4, x5) => pm_ev C_X12_keeps (d + 1) (pm_call M cost zext d) cost (false, false) 108 0 0 Q 52 [some (.ref 75), some (.int x4)] [] 0 0 (zS p q I [(75, some 50, fun _ => j2), (92, none, x5)] J []))) ?_ zFU ((0 : Int32), j3) h
    rintro ⟨x4, x5⟩ h
    refine g_iload_n (pc' := 53)  hc rfl rfl rfl ?_
    refine g_bipush (pc' := 55) (v := (70 : Int32)) hc rfl zkb_70 rfl ?_
    refine g_icmp_ge (pc' := 58) hc rfl rfl (fun hx => ?_) (fun hx => ?_)
    · replace h := zwp_t h hx
      replace h := zwp_r h
      exact h (some (.int x4)) rfl
    · replace h := zwp_f h hx
      refine g_aload_n (pc' := 59)  hc rfl rfl rfl rfl ?_
      refine z_getR (pc' := 62)  hc rfl rfl rfl sh_75 rfl rfl ?_
      refine g_bipush (pc' := 64) (v := (70 : Int32)) hc rfl zkb_70 rfl ?_
      refine g_aload_n (pc' := 65)  hc rfl rfl rfl rfl ?_
      refine z_getI (pc' := 68) (v := j2) hc rfl rfl rfl sh_75 rfl rfl rfl ?_
      refine g_imul (pc' := 69)  hc rfl rfl ?_
      refine g_iload_n (pc' := 70)  hc rfl rfl rfl ?_
      refine g_iadd (pc' := 71)  hc rfl rfl ?_
      refine g_aload_n (pc' := 72)  hc rfl rfl rfl rfl ?_
      refine z_getR (pc' := 75)  hc rfl rfl rfl sh_75 rfl rfl ?_
      refine g_iload_n (pc' := 76)  hc rfl rfl rfl ?_
      have hb := (zwp_bnd h).1
      replace h := (zwp_bnd h).2
      refine z_iaload (pc' := 77) (v := (((I 91)) x4.toNatClampNeg)) hc rfl rfl sh_91 hb rfl rfl ?_
      have hb := (zwp_bnd h).1
      replace h := (zwp_bnd h).2
      refine z_iastore (pc' := 78) (g := x5) (L' := [(75, some 50, fun _ => j2), (92, none, (upd x5 (((70 : Int32) * j2) + x4).toNatClampNeg (((I 91)) x4.toNatClampNeg)))]) hc rfl rfl sh_92 hb rfl rfl rfl rfl ?_
      refine g_iinc (pc' := 81) (ls1 := [some (.ref 75), some (.int (x4 + (1 : Int32)))]) hc rfl rfl zki_1 (zlt rfl) rfl rfl ?_
      refine g_goto hc rfl ?_
      replace h := zwp_l h
      exact h
  refine g_icmp_ne (pc' := 9) hc rfl rfl (fun hx => ?_) (fun hx => ?_)
  · replace h := zwp_f h hx
    replace h := zws h
    exact h none rfl
  · replace h := zwp_t h hx
    refine g_bipush (pc' := 11) (v := (70 : Int32)) hc rfl zkb_70 rfl ?_
    refine g_istore_n (pc' := 12) (ls1 := [some (.ref 75), some (.int (70 : Int32))]) hc rfl (zlt rfl) rfl rfl ?_
    refine zjn (G := (fun (y11 : (Nat → Int32)) => ∀ z10 : Option Value, znl z10 = true → pm_ev C_X12_keeps (d + 1) (pm_call M cost zext d) cost (false, false) 108 0 0 Q 40 [some (.ref 75), z10] [] 0 0 (zS p q I [(75, some 50, fun _ => (I 75 50)), (92, none, y11)] J []))) (zwp_bind h) ?_ (fun h => ?_)
    · rintro y11 h z10 hz10
      refine g_aload_n (pc' := 41)  hc rfl rfl rfl rfl ?_
      refine g_dup (pc' := 42)  hc rfl rfl rfl ?_
      refine z_getI (pc' := 45) (v := (I 75 50)) hc rfl rfl rfl sh_75 rfl rfl rfl ?_
      refine g_iconst (pc' := 46) (v := (1 : Int32)) hc rfl zki_1 rfl ?_
      refine g_isub (pc' := 47)  hc rfl rfl ?_
      refine z_putI (pc' := 50) (L' := [(75, some 50, fun _ => (((I 75 50)) - (1 : Int32))), (92, none, y11)]) hc rfl rfl rfl sh_75 rfl zft_12_50 rfl (fun h => Bool.noConfusion h) rfl rfl rfl ?_
      replace h := zws h
      exact h z10 hz10
    refine zitr_ev (G := (fun (g : Int32 × (Nat → Int32)) => match g with | (x8, x9) => pm_ev C_X12_keeps (d + 1) (pm_call M cost zext d) cost (false, false) 108 0 0 Q 12 [some (.ref 75), some (.int x8)] [] 0 0 (zS p q I [(75, some 50, fun _ => (I 75 50)), (92, none, x9)] J []))) ?_ zFU ((70 : Int32), (I 92)) h
    rintro ⟨x8, x9⟩ h
    refine g_iload_n (pc' := 13)  hc rfl rfl rfl ?_
    refine g_sipush (pc' := 16) (v := (2800 : Int32)) hc rfl zks_2800 rfl ?_
    refine g_icmp_ge (pc' := 19) hc rfl rfl (fun hx => ?_) (fun hx => ?_)
    · replace h := zwp_t h hx
      replace h := zwp_r h
      exact h (some (.int x8)) rfl
    · replace h := zwp_f h hx
      refine g_aload_n (pc' := 20)  hc rfl rfl rfl rfl ?_
      refine z_getR (pc' := 23)  hc rfl rfl rfl sh_75 rfl rfl ?_
      refine g_iload_n (pc' := 24)  hc rfl rfl rfl ?_
      refine g_bipush (pc' := 26) (v := (70 : Int32)) hc rfl zkb_70 rfl ?_
      refine g_isub (pc' := 27)  hc rfl rfl ?_
      refine g_aload_n (pc' := 28)  hc rfl rfl rfl rfl ?_
      refine z_getR (pc' := 31)  hc rfl rfl rfl sh_75 rfl rfl ?_
      refine g_iload_n (pc' := 32)  hc rfl rfl rfl ?_
      have hb := (zwp_bnd h).1
      replace h := (zwp_bnd h).2
      refine z_iaload (pc' := 33) (v := (x9 x8.toNatClampNeg)) hc rfl rfl sh_92 hb rfl rfl ?_
      have hb := (zwp_bnd h).1
      replace h := (zwp_bnd h).2
      refine z_iastore (pc' := 34) (g := x9) (L' := [(75, some 50, fun _ => (I 75 50)), (92, none, (upd x9 (x8 - (70 : Int32)).toNatClampNeg (x9 x8.toNatClampNeg)))]) hc rfl rfl sh_92 hb rfl rfl rfl rfl ?_
      refine g_iinc (pc' := 37) (ls1 := [some (.ref 75), some (.int (x8 + (1 : Int32)))]) hc rfl rfl zki_1 (zlt rfl) rfl rfl ?_
      refine g_goto hc rfl ?_
      replace h := zwp_l h
      exact h
