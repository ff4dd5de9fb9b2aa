/-! the cases -/
theorem lc_feed {L : Nat} {xs : Nat → Int32} {n : Nat} {v5 v6 : Option Value} {uc us : Nat} {p q : Nat} {I : pI} {J : pJ} (hL : L ≤ 3072) (hn : 6 * n + 6 ≤ L) (hu : uc ≤ 108 + n) (hs : us ≤ 23678 + 6 * n) (H : Inv p q I J) (K : LawK L xs n) : LE L xs 200 (lsl (nI (6 * n)) v5 v6) [] uc us (pm_st 108 (shp p q) I J) := by
  refine g_aload_n (pc := 200) (pc' := 201) LEc rfl rfl rfl rfl ?_
  refine w_arg (pc := 201) hL (by omega : 6 * n + 1 < L) rfl rfl rfl w_e1 rfl rfl ?_
  refine w_arg (pc := 207) hL (by omega : 6 * n + 2 < L) rfl rfl rfl w_e2 rfl rfl ?_
  refine w_arg (pc := 213) hL (by omega : 6 * n + 3 < L) rfl rfl rfl w_e3 rfl rfl ?_
  refine w_arg (pc := 219) hL (by omega : 6 * n + 4 < L) rfl rfl rfl w_e4 rfl rfl ?_
  refine w_arg (pc := 225) hL (by omega : 6 * n + 5 < L) rfl rfl rfl w_e5 rfl rfl ?_
  have hC := op_feed H (xs (6 * n + 1)) (xs (6 * n + 2)) (xs (6 * n + 3)) (xs (6 * n + 4)) (xs (6 * n + 5))
  unfold OpD at hC
  refine w_virt (pc := 231) (as := [.int (xs (6 * n + 1)), .int (xs (6 * n + 2)), .int (xs (6 * n + 3)), .int (xs (6 * n + 4)), .int (xs (6 * n + 5))]) (a := 0) (r := []) rfl rfl rfl rfl sh_0 rfl zco_97 rfl (by omega) (by omega) hC ?_
  rintro o S ⟨x, I1, J1, rfl, rfl, hM⟩
  refine ⟨_, rfl, ?_⟩
  refine g_aload_n (pc := 234) (pc' := 235) LEc rfl rfl rfl rfl ?_
  refine w_arg (pc := 235) hL (by omega : 6 * n + 1 < L) rfl rfl rfl w_e1 rfl rfl ?_
  refine w_arg (pc := 241) hL (by omega : 6 * n + 2 < L) rfl rfl rfl w_e2 rfl rfl ?_
  refine w_arg (pc := 247) hL (by omega : 6 * n + 3 < L) rfl rfl rfl w_e3 rfl rfl ?_
  refine w_arg (pc := 253) hL (by omega : 6 * n + 4 < L) rfl rfl rfl w_e4 rfl rfl ?_
  refine w_arg (pc := 259) hL (by omega : 6 * n + 5 < L) rfl rfl rfl w_e5 rfl rfl ?_
  refine w_virt (pc := 265) (as := [.int (xs (6 * n + 1)), .int (xs (6 * n + 2)), .int (xs (6 * n + 3)), .int (xs (6 * n + 4)), .int (xs (6 * n + 5))]) (a := 75) (r := [.int x]) rfl rfl rfl rfl sh_75 rfl zco_159 rfl (by omega) (by omega) hM ?_
  rintro o S ⟨I2, J2, rfl, rfl, H2⟩
  refine ⟨_, rfl, ?_⟩
  exact g_icmp_eq (pc := 268) (pc' := 271) LEc rfl rfl (fun _ => K _ _ _ _ _ _ _ _ H2 (by omega) (by omega)) (fun h => absurd rfl h)
theorem lc_town {L : Nat} {xs : Nat → Int32} {n : Nat} {v5 v6 : Option Value} {uc us : Nat} {p q : Nat} {I : pI} {J : pJ} (hL : L ≤ 3072) (hn : 6 * n + 6 ≤ L) (hu : uc ≤ 108 + n) (hs : us ≤ 23678 + 6 * n) (H : Inv p q I J) (K : LawK L xs n) : LE L xs 273 (lsl (nI (6 * n)) v5 v6) [] uc us (pm_st 108 (shp p q) I J) := by
  refine g_aload_n (pc := 273) (pc' := 274) LEc rfl rfl rfl rfl ?_
  refine w_arg (pc := 274) hL (by omega : 6 * n + 1 < L) rfl rfl rfl w_e1 rfl rfl ?_
  refine g_aload_n (pc := 280) (pc' := 281) LEc rfl rfl rfl rfl ?_
  have hC := op_town H (xs (6 * n + 1))
  unfold OpH at hC
  refine w_help (pc := 281) (as := .ref 0 :: ([.int (xs (6 * n + 1))] ++ [.ref 107])) (r := []) rfl rfl rfl rfl zco_272 rfl (by omega) (by omega) hC ?_
  rintro o S ⟨k, p1, q1, I1, J1, rfl, rfl, hM⟩
  refine ⟨_, rfl, ?_⟩
  refine g_istore (pc := 284) (pc' := 286) (ls1 := lsl (nI (6 * n)) (some (.int k)) v6) LEc rfl (zlt rfl) rfl rfl ?_
  refine g_aload_n (pc := 286) (pc' := 287) LEc rfl rfl rfl rfl ?_
  refine w_arg (pc := 287) hL (by omega : 6 * n + 1 < L) rfl rfl rfl w_e1 rfl rfl ?_
  refine w_virt (pc := 293) (as := [.int (xs (6 * n + 1))]) (a := 75) (r := []) rfl rfl rfl rfl sh_75 rfl zco_191 rfl (by omega) (by omega) hM ?_
  rintro o S ⟨b, I2, J2, rfl, rfl, hthr, hans, H2⟩
  refine ⟨_, rfl, ?_⟩
  exact w_tail (pc := 296) (uc := uc + 1) (us := us + 6) H2 hthr hans (by omega) (by omega) (by omega) K rfl rfl rfl rfl rfl rfl rfl rfl rfl rfl rfl rfl rfl rfl rfl rfl
theorem lc_fault {L : Nat} {xs : Nat → Int32} {n : Nat} {v5 v6 : Option Value} {uc us : Nat} {p q : Nat} {I : pI} {J : pJ} (hL : L ≤ 3072) (hn : 6 * n + 6 ≤ L) (hu : uc ≤ 108 + n) (hs : us ≤ 23678 + 6 * n) (H : Inv p q I J) (K : LawK L xs n) : LE L xs 329 (lsl (nI (6 * n)) v5 v6) [] uc us (pm_st 108 (shp p q) I J) := by
  refine g_aload_n (pc := 329) (pc' := 330) LEc rfl rfl rfl rfl ?_
  have hC := op_fault H
  unfold OpD at hC
  refine w_virt (pc := 330) (as := []) (a := 0) (r := []) rfl rfl rfl rfl sh_0 rfl zco_99 rfl (by omega) (by omega) hC ?_
  rintro o S ⟨x, I1, J1, rfl, rfl, hM⟩
  refine ⟨_, rfl, ?_⟩
  refine g_aload_n (pc := 333) (pc' := 334) LEc rfl rfl rfl rfl ?_
  refine w_virt (pc := 334) (as := []) (a := 75) (r := [.int x]) rfl rfl rfl rfl sh_75 rfl zco_192 rfl (by omega) (by omega) hM ?_
  rintro o S ⟨I2, J2, rfl, rfl, H2⟩
  refine ⟨_, rfl, ?_⟩
  exact g_icmp_eq (pc := 337) (pc' := 340) LEc rfl rfl (fun _ => K _ _ _ _ _ _ _ _ H2 (by omega) (by omega)) (fun h => absurd rfl h)
theorem lc_count {L : Nat} {xs : Nat → Int32} {n : Nat} {v5 v6 : Option Value} {uc us : Nat} {p q : Nat} {I : pI} {J : pJ} (hL : L ≤ 3072) (hn : 6 * n + 6 ≤ L) (hu : uc ≤ 108 + n) (hs : us ≤ 23678 + 6 * n) (H : Inv p q I J) (K : LawK L xs n) : LE L xs 342 (lsl (nI (6 * n)) v5 v6) [] uc us (pm_st 108 (shp p q) I J) := by
  refine g_aload_n (pc := 342) (pc' := 343) LEc rfl rfl rfl rfl ?_
  refine w_arg (pc := 343) hL (by omega : 6 * n + 1 < L) rfl rfl rfl w_e1 rfl rfl ?_
  refine g_aload_n (pc := 349) (pc' := 350) LEc rfl rfl rfl rfl ?_
  have hC := op_count H (xs (6 * n + 1))
  unfold OpH at hC
  refine w_help (pc := 350) (as := .ref 0 :: ([.int (xs (6 * n + 1))] ++ [.ref 107])) (r := []) rfl rfl rfl rfl zco_273 rfl (by omega) (by omega) hC ?_
  rintro o S ⟨k, p1, q1, I1, J1, rfl, rfl, hM⟩
  refine ⟨_, rfl, ?_⟩
  refine g_istore (pc := 353) (pc' := 355) (ls1 := lsl (nI (6 * n)) (some (.int k)) v6) LEc rfl (zlt rfl) rfl rfl ?_
  refine g_aload_n (pc := 355) (pc' := 356) LEc rfl rfl rfl rfl ?_
  refine w_arg (pc := 356) hL (by omega : 6 * n + 1 < L) rfl rfl rfl w_e1 rfl rfl ?_
  refine w_virt (pc := 362) (as := [.int (xs (6 * n + 1))]) (a := 75) (r := []) rfl rfl rfl rfl sh_75 rfl zco_215 rfl (by omega) (by omega) hM ?_
  rintro o S ⟨b, I2, J2, rfl, rfl, hthr, hans, H2⟩
  refine ⟨_, rfl, ?_⟩
  exact w_tail (pc := 365) (uc := uc + 1) (us := us + 6) H2 hthr hans (by omega) (by omega) (by omega) K rfl rfl rfl rfl rfl rfl rfl rfl rfl rfl rfl rfl rfl rfl rfl rfl
theorem lc_figure {L : Nat} {xs : Nat → Int32} {n : Nat} {v5 v6 : Option Value} {uc us : Nat} {p q : Nat} {I : pI} {J : pJ} (hL : L ≤ 3072) (hn : 6 * n + 6 ≤ L) (hu : uc ≤ 108 + n) (hs : us ≤ 23678 + 6 * n) (H : Inv p q I J) (K : LawK L xs n) : LE L xs 398 (lsl (nI (6 * n)) v5 v6) [] uc us (pm_st 108 (shp p q) I J) := by
  refine g_aload_n (pc := 398) (pc' := 399) LEc rfl rfl rfl rfl ?_
  refine w_arg (pc := 399) hL (by omega : 6 * n + 1 < L) rfl rfl rfl w_e1 rfl rfl ?_
  refine w_arg (pc := 405) hL (by omega : 6 * n + 2 < L) rfl rfl rfl w_e2 rfl rfl ?_
  refine g_aload_n (pc := 411) (pc' := 412) LEc rfl rfl rfl rfl ?_
  have hC := op_figure H (xs (6 * n + 1)) (xs (6 * n + 2))
  unfold OpH at hC
  refine w_help (pc := 412) (as := .ref 0 :: ([.int (xs (6 * n + 1)), .int (xs (6 * n + 2))] ++ [.ref 107])) (r := []) rfl rfl rfl rfl zco_274 rfl (by omega) (by omega) hC ?_
  rintro o S ⟨k, p1, q1, I1, J1, rfl, rfl, hM⟩
  refine ⟨_, rfl, ?_⟩
  refine g_istore (pc := 415) (pc' := 417) (ls1 := lsl (nI (6 * n)) (some (.int k)) v6) LEc rfl (zlt rfl) rfl rfl ?_
  refine g_aload_n (pc := 417) (pc' := 418) LEc rfl rfl rfl rfl ?_
  refine w_arg (pc := 418) hL (by omega : 6 * n + 1 < L) rfl rfl rfl w_e1 rfl rfl ?_
  refine w_arg (pc := 424) hL (by omega : 6 * n + 2 < L) rfl rfl rfl w_e2 rfl rfl ?_
  refine w_virt (pc := 430) (as := [.int (xs (6 * n + 1)), .int (xs (6 * n + 2))]) (a := 75) (r := []) rfl rfl rfl rfl sh_75 rfl zco_220 rfl (by omega) (by omega) hM ?_
  rintro o S ⟨b, I2, J2, rfl, rfl, hthr, hans, H2⟩
  refine ⟨_, rfl, ?_⟩
  exact w_tail (pc := 433) (uc := uc + 1) (us := us + 6) H2 hthr hans (by omega) (by omega) (by omega) K rfl rfl rfl rfl rfl rfl rfl rfl rfl rfl rfl rfl rfl rfl rfl rfl
theorem lc_cell {L : Nat} {xs : Nat → Int32} {n : Nat} {v5 v6 : Option Value} {uc us : Nat} {p q : Nat} {I : pI} {J : pJ} (hL : L ≤ 3072) (hn : 6 * n + 6 ≤ L) (hu : uc ≤ 108 + n) (hs : us ≤ 23678 + 6 * n) (H : Inv p q I J) (K : LawK L xs n) : LE L xs 466 (lsl (nI (6 * n)) v5 v6) [] uc us (pm_st 108 (shp p q) I J) := by
  refine g_aload_n (pc := 466) (pc' := 467) LEc rfl rfl rfl rfl ?_
  refine w_arg (pc := 467) hL (by omega : 6 * n + 1 < L) rfl rfl rfl w_e1 rfl rfl ?_
  refine w_arg (pc := 473) hL (by omega : 6 * n + 2 < L) rfl rfl rfl w_e2 rfl rfl ?_
  refine g_aload_n (pc := 479) (pc' := 480) LEc rfl rfl rfl rfl ?_
  have hC := op_cell H (xs (6 * n + 1)) (xs (6 * n + 2))
  unfold OpH at hC
  refine w_help (pc := 480) (as := .ref 0 :: ([.int (xs (6 * n + 1)), .int (xs (6 * n + 2))] ++ [.ref 107])) (r := []) rfl rfl rfl rfl zco_275 rfl (by omega) (by omega) hC ?_
  rintro o S ⟨k, p1, q1, I1, J1, rfl, rfl, hM⟩
  refine ⟨_, rfl, ?_⟩
  refine g_istore (pc := 483) (pc' := 485) (ls1 := lsl (nI (6 * n)) (some (.int k)) v6) LEc rfl (zlt rfl) rfl rfl ?_
  refine g_aload_n (pc := 485) (pc' := 486) LEc rfl rfl rfl rfl ?_
  refine w_arg (pc := 486) hL (by omega : 6 * n + 1 < L) rfl rfl rfl w_e1 rfl rfl ?_
  refine w_arg (pc := 492) hL (by omega : 6 * n + 2 < L) rfl rfl rfl w_e2 rfl rfl ?_
  refine w_virt (pc := 498) (as := [.int (xs (6 * n + 1)), .int (xs (6 * n + 2))]) (a := 75) (r := []) rfl rfl rfl rfl sh_75 rfl zco_222 rfl (by omega) (by omega) hM ?_
  rintro o S ⟨b, I2, J2, rfl, rfl, hthr, hans, H2⟩
  refine ⟨_, rfl, ?_⟩
  exact w_tail (pc := 501) (uc := uc + 1) (us := us + 6) H2 hthr hans (by omega) (by omega) (by omega) K rfl rfl rfl rfl rfl rfl rfl rfl rfl rfl rfl rfl rfl rfl rfl rfl
theorem lc_hours {L : Nat} {xs : Nat → Int32} {n : Nat} {v5 v6 : Option Value} {uc us : Nat} {p q : Nat} {I : pI} {J : pJ} (hL : L ≤ 3072) (hn : 6 * n + 6 ≤ L) (hu : uc ≤ 108 + n) (hs : us ≤ 23678 + 6 * n) (H : Inv p q I J) (K : LawK L xs n) : LE L xs 534 (lsl (nI (6 * n)) v5 v6) [] uc us (pm_st 108 (shp p q) I J) := by
  refine g_aload_n (pc := 534) (pc' := 535) LEc rfl rfl rfl rfl ?_
  refine w_arg (pc := 535) hL (by omega : 6 * n + 1 < L) rfl rfl rfl w_e1 rfl rfl ?_
  have hC := op_hours H (xs (6 * n + 1))
  unfold OpD at hC
  refine w_virt (pc := 541) (as := [.int (xs (6 * n + 1))]) (a := 0) (r := []) rfl rfl rfl rfl sh_0 rfl zco_103 rfl (by omega) (by omega) hC ?_
  rintro o S ⟨x, I1, J1, rfl, rfl, hM⟩
  refine ⟨_, rfl, ?_⟩
  refine g_aload_n (pc := 544) (pc' := 545) LEc rfl rfl rfl rfl ?_
  refine w_arg (pc := 545) hL (by omega : 6 * n + 1 < L) rfl rfl rfl w_e1 rfl rfl ?_
  refine w_virt (pc := 551) (as := [.int (xs (6 * n + 1))]) (a := 75) (r := [.int x]) rfl rfl rfl rfl sh_75 rfl zco_223 rfl (by omega) (by omega) hM ?_
  rintro o S ⟨I2, J2, rfl, rfl, H2⟩
  refine ⟨_, rfl, ?_⟩
  exact g_icmp_eq (pc := 554) (pc' := 557) LEc rfl rfl (fun _ => K _ _ _ _ _ _ _ _ H2 (by omega) (by omega)) (fun h => absurd rfl h)
theorem lc_stop {L : Nat} {xs : Nat → Int32} {n : Nat} {v5 v6 : Option Value} {uc us : Nat} {p q : Nat} {I : pI} {J : pJ} (hL : L ≤ 3072) (hn : 6 * n + 6 ≤ L) (hu : uc ≤ 108 + n) (hs : us ≤ 23678 + 6 * n) (H : Inv p q I J) (K : LawK L xs n) : LE L xs 559 (lsl (nI (6 * n)) v5 v6) [] uc us (pm_st 108 (shp p q) I J) := by
  refine g_aload_n (pc := 559) (pc' := 560) LEc rfl rfl rfl rfl ?_
  refine w_arg (pc := 560) hL (by omega : 6 * n + 1 < L) rfl rfl rfl w_e1 rfl rfl ?_
  refine w_arg (pc := 566) hL (by omega : 6 * n + 2 < L) rfl rfl rfl w_e2 rfl rfl ?_
  refine g_aload_n (pc := 572) (pc' := 573) LEc rfl rfl rfl rfl ?_
  have hC := op_stop H (xs (6 * n + 1)) (xs (6 * n + 2))
  unfold OpH at hC
  refine w_help (pc := 573) (as := .ref 0 :: ([.int (xs (6 * n + 1)), .int (xs (6 * n + 2))] ++ [.ref 107])) (r := []) rfl rfl rfl rfl zco_276 rfl (by omega) (by omega) hC ?_
  rintro o S ⟨k, p1, q1, I1, J1, rfl, rfl, hM⟩
  refine ⟨_, rfl, ?_⟩
  refine g_istore (pc := 576) (pc' := 578) (ls1 := lsl (nI (6 * n)) (some (.int k)) v6) LEc rfl (zlt rfl) rfl rfl ?_
  refine g_aload_n (pc := 578) (pc' := 579) LEc rfl rfl rfl rfl ?_
  refine w_arg (pc := 579) hL (by omega : 6 * n + 1 < L) rfl rfl rfl w_e1 rfl rfl ?_
  refine w_arg (pc := 585) hL (by omega : 6 * n + 2 < L) rfl rfl rfl w_e2 rfl rfl ?_
  refine w_virt (pc := 591) (as := [.int (xs (6 * n + 1)), .int (xs (6 * n + 2))]) (a := 75) (r := []) rfl rfl rfl rfl sh_75 rfl zco_224 rfl (by omega) (by omega) hM ?_
  rintro o S ⟨b, I2, J2, rfl, rfl, hthr, hans, H2⟩
  refine ⟨_, rfl, ?_⟩
  exact w_tail (pc := 594) (uc := uc + 1) (us := us + 6) H2 hthr hans (by omega) (by omega) (by omega) K rfl rfl rfl rfl rfl rfl rfl rfl rfl rfl rfl rfl rfl rfl rfl rfl
theorem lc_lift {L : Nat} {xs : Nat → Int32} {n : Nat} {v5 v6 : Option Value} {uc us : Nat} {p q : Nat} {I : pI} {J : pJ} (hL : L ≤ 3072) (hn : 6 * n + 6 ≤ L) (hu : uc ≤ 108 + n) (hs : us ≤ 23678 + 6 * n) (H : Inv p q I J) (K : LawK L xs n) : LE L xs 627 (lsl (nI (6 * n)) v5 v6) [] uc us (pm_st 108 (shp p q) I J) := by
  refine g_aload_n (pc := 627) (pc' := 628) LEc rfl rfl rfl rfl ?_
  refine w_arg (pc := 628) hL (by omega : 6 * n + 1 < L) rfl rfl rfl w_e1 rfl rfl ?_
  refine w_arg (pc := 634) hL (by omega : 6 * n + 2 < L) rfl rfl rfl w_e2 rfl rfl ?_
  refine g_aload_n (pc := 640) (pc' := 641) LEc rfl rfl rfl rfl ?_
  have hC := op_lift H (xs (6 * n + 1)) (xs (6 * n + 2))
  unfold OpH at hC
  refine w_help (pc := 641) (as := .ref 0 :: ([.int (xs (6 * n + 1)), .int (xs (6 * n + 2))] ++ [.ref 107])) (r := []) rfl rfl rfl rfl zco_277 rfl (by omega) (by omega) hC ?_
  rintro o S ⟨k, p1, q1, I1, J1, rfl, rfl, hM⟩
  refine ⟨_, rfl, ?_⟩
  refine g_istore (pc := 644) (pc' := 646) (ls1 := lsl (nI (6 * n)) (some (.int k)) v6) LEc rfl (zlt rfl) rfl rfl ?_
  refine g_aload_n (pc := 646) (pc' := 647) LEc rfl rfl rfl rfl ?_
  refine w_arg (pc := 647) hL (by omega : 6 * n + 1 < L) rfl rfl rfl w_e1 rfl rfl ?_
  refine w_arg (pc := 653) hL (by omega : 6 * n + 2 < L) rfl rfl rfl w_e2 rfl rfl ?_
  refine w_virt (pc := 659) (as := [.int (xs (6 * n + 1)), .int (xs (6 * n + 2))]) (a := 75) (r := []) rfl rfl rfl rfl sh_75 rfl zco_225 rfl (by omega) (by omega) hM ?_
  rintro o S ⟨b, I2, J2, rfl, rfl, hthr, hans, H2⟩
  refine ⟨_, rfl, ?_⟩
  exact w_tail (pc := 662) (uc := uc + 1) (us := us + 6) H2 hthr hans (by omega) (by omega) (by omega) K rfl rfl rfl rfl rfl rfl rfl rfl rfl rfl rfl rfl rfl rfl rfl rfl
theorem lc_brush {L : Nat} {xs : Nat → Int32} {n : Nat} {v5 v6 : Option Value} {uc us : Nat} {p q : Nat} {I : pI} {J : pJ} (hL : L ≤ 3072) (hn : 6 * n + 6 ≤ L) (hu : uc ≤ 108 + n) (hs : us ≤ 23678 + 6 * n) (H : Inv p q I J) (K : LawK L xs n) : LE L xs 695 (lsl (nI (6 * n)) v5 v6) [] uc us (pm_st 108 (shp p q) I J) := by
  refine g_aload_n (pc := 695) (pc' := 696) LEc rfl rfl rfl rfl ?_
  refine w_arg (pc := 696) hL (by omega : 6 * n + 1 < L) rfl rfl rfl w_e1 rfl rfl ?_
  refine g_aload_n (pc := 702) (pc' := 703) LEc rfl rfl rfl rfl ?_
  have hC := op_brush H (xs (6 * n + 1))
  unfold OpH at hC
  refine w_help (pc := 703) (as := .ref 0 :: ([.int (xs (6 * n + 1))] ++ [.ref 107])) (r := []) rfl rfl rfl rfl zco_278 rfl (by omega) (by omega) hC ?_
  rintro o S ⟨k, p1, q1, I1, J1, rfl, rfl, hM⟩
  refine ⟨_, rfl, ?_⟩
  refine g_istore (pc := 706) (pc' := 708) (ls1 := lsl (nI (6 * n)) (some (.int k)) v6) LEc rfl (zlt rfl) rfl rfl ?_
  refine g_aload_n (pc := 708) (pc' := 709) LEc rfl rfl rfl rfl ?_
  refine w_arg (pc := 709) hL (by omega : 6 * n + 1 < L) rfl rfl rfl w_e1 rfl rfl ?_
  refine w_virt (pc := 715) (as := [.int (xs (6 * n + 1))]) (a := 75) (r := []) rfl rfl rfl rfl sh_75 rfl zco_226 rfl (by omega) (by omega) hM ?_
  rintro o S ⟨b, I2, J2, rfl, rfl, hthr, hans, H2⟩
  refine ⟨_, rfl, ?_⟩
  exact w_tail (pc := 718) (uc := uc + 1) (us := us + 6) H2 hthr hans (by omega) (by omega) (by omega) K rfl rfl rfl rfl rfl rfl rfl rfl rfl rfl rfl rfl rfl rfl rfl rfl
theorem lc_wall {L : Nat} {xs : Nat → Int32} {n : Nat} {v5 v6 : Option Value} {uc us : Nat} {p q : Nat} {I : pI} {J : pJ} (hL : L ≤ 3072) (hn : 6 * n + 6 ≤ L) (hu : uc ≤ 108 + n) (hs : us ≤ 23678 + 6 * n) (H : Inv p q I J) (K : LawK L xs n) : LE L xs 751 (lsl (nI (6 * n)) v5 v6) [] uc us (pm_st 108 (shp p q) I J) := by
  refine g_aload_n (pc := 751) (pc' := 752) LEc rfl rfl rfl rfl ?_
  refine w_arg (pc := 752) hL (by omega : 6 * n + 1 < L) rfl rfl rfl w_e1 rfl rfl ?_
  refine w_arg (pc := 758) hL (by omega : 6 * n + 2 < L) rfl rfl rfl w_e2 rfl rfl ?_
  refine w_bool (pc := 764) rfl rfl rfl rfl ?_
  refine g_aload_n (pc := 772) (pc' := 773) LEc rfl rfl rfl rfl ?_
  have hC := op_wall H (xs (6 * n + 1)) (!(xs (6 * n + 2) == 0))
  unfold OpW at hC
  refine w_help (pc := 773) (as := .ref 0 :: ([.int (xs (6 * n + 1)), .int (b2 (!(xs (6 * n + 2) == 0)))] ++ [.ref 107])) (r := []) rfl rfl rfl rfl zco_279 rfl (by omega) (by omega) hC ?_
  rintro o S ⟨k, p1, q1, I1, J1, rfl, rfl, hM⟩
  refine ⟨_, rfl, ?_⟩
  refine g_istore (pc := 776) (pc' := 778) (ls1 := lsl (nI (6 * n)) (some (.int k)) v6) LEc rfl (zlt rfl) rfl rfl ?_
  refine g_aload_n (pc := 778) (pc' := 779) LEc rfl rfl rfl rfl ?_
  refine w_arg (pc := 779) hL (by omega : 6 * n + 1 < L) rfl rfl rfl w_e1 rfl rfl ?_
  refine w_arg (pc := 785) hL (by omega : 6 * n + 2 < L) rfl rfl rfl w_e2 rfl rfl ?_
  refine w_bool (pc := 791) rfl rfl rfl rfl ?_
  refine w_virt (pc := 799) (as := [.int (xs (6 * n + 1)), .int (b2 (!(xs (6 * n + 2) == 0)))]) (a := 75) (r := []) rfl rfl rfl rfl sh_75 rfl zco_227 rfl (by omega) (by omega) hM ?_
  rintro o S ⟨b, I2, J2, rfl, rfl, hthr, hans, h01, H2⟩
  refine ⟨_, rfl, ?_⟩
  exact w_tailW (pc := 802) (uc := uc + 1) (us := us + 6) H2 hthr hans h01 (by omega) (by omega) (by omega) K rfl rfl rfl rfl rfl rfl rfl rfl rfl rfl rfl rfl rfl rfl rfl rfl rfl rfl rfl
theorem lc_undo {L : Nat} {xs : Nat → Int32} {n : Nat} {v5 v6 : Option Value} {uc us : Nat} {p q : Nat} {I : pI} {J : pJ} (hL : L ≤ 3072) (hn : 6 * n + 6 ≤ L) (hu : uc ≤ 108 + n) (hs : us ≤ 23678 + 6 * n) (H : Inv p q I J) (K : LawK L xs n) : LE L xs 842 (lsl (nI (6 * n)) v5 v6) [] uc us (pm_st 108 (shp p q) I J) := by
  refine g_aload_n (pc := 842) (pc' := 843) LEc rfl rfl rfl rfl ?_
  have hC := op_undo H
  unfold OpD at hC
  refine w_virt (pc := 843) (as := []) (a := 0) (r := []) rfl rfl rfl rfl sh_0 rfl zco_108 rfl (by omega) (by omega) hC ?_
  rintro o S ⟨x, I1, J1, rfl, rfl, hM⟩
  refine ⟨_, rfl, ?_⟩
  refine g_aload_n (pc := 846) (pc' := 847) LEc rfl rfl rfl rfl ?_
  refine w_virt (pc := 847) (as := []) (a := 75) (r := [.int x]) rfl rfl rfl rfl sh_75 rfl zco_195 rfl (by omega) (by omega) hM ?_
  rintro o S ⟨I2, J2, rfl, rfl, H2⟩
  refine ⟨_, rfl, ?_⟩
  exact g_icmp_eq (pc := 850) (pc' := 853) LEc rfl rfl (fun _ => K _ _ _ _ _ _ _ _ H2 (by omega) (by omega)) (fun h => absurd rfl h)
theorem lc_then {L : Nat} {xs : Nat → Int32} {n : Nat} {v5 v6 : Option Value} {uc us : Nat} {p q : Nat} {I : pI} {J : pJ} (hL : L ≤ 3072) (hn : 6 * n + 6 ≤ L) (hu : uc ≤ 108 + n) (hs : us ≤ 23678 + 6 * n) (H : Inv p q I J) (K : LawK L xs n) : LE L xs 855 (lsl (nI (6 * n)) v5 v6) [] uc us (pm_st 108 (shp p q) I J) := by
  refine g_aload_n (pc := 855) (pc' := 856) LEc rfl rfl rfl rfl ?_
  refine w_arg (pc := 856) hL (by omega : 6 * n + 1 < L) rfl rfl rfl w_e1 rfl rfl ?_
  refine w_arg (pc := 862) hL (by omega : 6 * n + 2 < L) rfl rfl rfl w_e2 rfl rfl ?_
  refine w_arg (pc := 868) hL (by omega : 6 * n + 3 < L) rfl rfl rfl w_e3 rfl rfl ?_
  refine g_aload_n (pc := 874) (pc' := 875) LEc rfl rfl rfl rfl ?_
  have hC := op_then H (xs (6 * n + 1)) (xs (6 * n + 2)) (xs (6 * n + 3))
  unfold OpH at hC
  refine w_help (pc := 875) (as := .ref 0 :: ([.int (xs (6 * n + 1)), .int (xs (6 * n + 2)), .int (xs (6 * n + 3))] ++ [.ref 107])) (r := []) rfl rfl rfl rfl zco_280 rfl (by omega) (by omega) hC ?_
  rintro o S ⟨k, p1, q1, I1, J1, rfl, rfl, hM⟩
  refine ⟨_, rfl, ?_⟩
  refine g_istore (pc := 878) (pc' := 880) (ls1 := lsl (nI (6 * n)) (some (.int k)) v6) LEc rfl (zlt rfl) rfl rfl ?_
  refine g_aload_n (pc := 880) (pc' := 881) LEc rfl rfl rfl rfl ?_
  refine w_arg (pc := 881) hL (by omega : 6 * n + 1 < L) rfl rfl rfl w_e1 rfl rfl ?_
  refine w_arg (pc := 887) hL (by omega : 6 * n + 2 < L) rfl rfl rfl w_e2 rfl rfl ?_
  refine w_arg (pc := 893) hL (by omega : 6 * n + 3 < L) rfl rfl rfl w_e3 rfl rfl ?_
  refine w_virt (pc := 899) (as := [.int (xs (6 * n + 1)), .int (xs (6 * n + 2)), .int (xs (6 * n + 3))]) (a := 75) (r := []) rfl rfl rfl rfl sh_75 rfl zco_229 rfl (by omega) (by omega) hM ?_
  rintro o S ⟨b, I2, J2, rfl, rfl, hthr, hans, H2⟩
  refine ⟨_, rfl, ?_⟩
  exact w_tail (pc := 902) (uc := uc + 1) (us := us + 6) H2 hthr hans (by omega) (by omega) (by omega) K rfl rfl rfl rfl rfl rfl rfl rfl rfl rfl rfl rfl rfl rfl rfl rfl
theorem lc_comes {L : Nat} {xs : Nat → Int32} {n : Nat} {v5 v6 : Option Value} {uc us : Nat} {p q : Nat} {I : pI} {J : pJ} (hL : L ≤ 3072) (hn : 6 * n + 6 ≤ L) (hu : uc ≤ 108 + n) (hs : us ≤ 23678 + 6 * n) (H : Inv p q I J) (K : LawK L xs n) : LE L xs 935 (lsl (nI (6 * n)) v5 v6) [] uc us (pm_st 108 (shp p q) I J) := by
  refine g_aload_n (pc := 935) (pc' := 936) LEc rfl rfl rfl rfl ?_
  refine w_arg (pc := 936) hL (by omega : 6 * n + 1 < L) rfl rfl rfl w_e1 rfl rfl ?_
  refine w_arg (pc := 942) hL (by omega : 6 * n + 2 < L) rfl rfl rfl w_e2 rfl rfl ?_
  refine g_aload_n (pc := 948) (pc' := 949) LEc rfl rfl rfl rfl ?_
  have hC := op_comes H (xs (6 * n + 1)) (xs (6 * n + 2))
  unfold OpH at hC
  refine w_help (pc := 949) (as := .ref 0 :: ([.int (xs (6 * n + 1)), .int (xs (6 * n + 2))] ++ [.ref 107])) (r := []) rfl rfl rfl rfl zco_281 rfl (by omega) (by omega) hC ?_
  rintro o S ⟨k, p1, q1, I1, J1, rfl, rfl, hM⟩
  refine ⟨_, rfl, ?_⟩
  refine g_istore (pc := 952) (pc' := 954) (ls1 := lsl (nI (6 * n)) (some (.int k)) v6) LEc rfl (zlt rfl) rfl rfl ?_
  refine g_aload_n (pc := 954) (pc' := 955) LEc rfl rfl rfl rfl ?_
  refine w_arg (pc := 955) hL (by omega : 6 * n + 1 < L) rfl rfl rfl w_e1 rfl rfl ?_
  refine w_arg (pc := 961) hL (by omega : 6 * n + 2 < L) rfl rfl rfl w_e2 rfl rfl ?_
  refine w_virt (pc := 967) (as := [.int (xs (6 * n + 1)), .int (xs (6 * n + 2))]) (a := 75) (r := []) rfl rfl rfl rfl sh_75 rfl zco_230 rfl (by omega) (by omega) hM ?_
  rintro o S ⟨b, I2, J2, rfl, rfl, hthr, hans, H2⟩
  refine ⟨_, rfl, ?_⟩
  exact w_tail (pc := 970) (uc := uc + 1) (us := us + 6) H2 hthr hans (by omega) (by omega) (by omega) K rfl rfl rfl rfl rfl rfl rfl rfl rfl rfl rfl rfl rfl rfl rfl rfl
theorem lc_meet {L : Nat} {xs : Nat → Int32} {n : Nat} {v5 v6 : Option Value} {uc us : Nat} {p q : Nat} {I : pI} {J : pJ} (hL : L ≤ 3072) (hn : 6 * n + 6 ≤ L) (hu : uc ≤ 108 + n) (hs : us ≤ 23678 + 6 * n) (H : Inv p q I J) (K : LawK L xs n) : LE L xs 1003 (lsl (nI (6 * n)) v5 v6) [] uc us (pm_st 108 (shp p q) I J) := by
  refine g_aload_n (pc := 1003) (pc' := 1004) LEc rfl rfl rfl rfl ?_
  refine w_arg (pc := 1004) hL (by omega : 6 * n + 1 < L) rfl rfl rfl w_e1 rfl rfl ?_
  refine w_arg (pc := 1010) hL (by omega : 6 * n + 2 < L) rfl rfl rfl w_e2 rfl rfl ?_
  refine g_aload_n (pc := 1016) (pc' := 1017) LEc rfl rfl rfl rfl ?_
  have hC := op_meet H (xs (6 * n + 1)) (xs (6 * n + 2))
  unfold OpH at hC
  refine w_help (pc := 1017) (as := .ref 0 :: ([.int (xs (6 * n + 1)), .int (xs (6 * n + 2))] ++ [.ref 107])) (r := []) rfl rfl rfl rfl zco_282 rfl (by omega) (by omega) hC ?_
  rintro o S ⟨k, p1, q1, I1, J1, rfl, rfl, hM⟩
  refine ⟨_, rfl, ?_⟩
  refine g_istore (pc := 1020) (pc' := 1022) (ls1 := lsl (nI (6 * n)) (some (.int k)) v6) LEc rfl (zlt rfl) rfl rfl ?_
  refine g_aload_n (pc := 1022) (pc' := 1023) LEc rfl rfl rfl rfl ?_
  refine w_arg (pc := 1023) hL (by omega : 6 * n + 1 < L) rfl rfl rfl w_e1 rfl rfl ?_
  refine w_arg (pc := 1029) hL (by omega : 6 * n + 2 < L) rfl rfl rfl w_e2 rfl rfl ?_
  refine w_virt (pc := 1035) (as := [.int (xs (6 * n + 1)), .int (xs (6 * n + 2))]) (a := 75) (r := []) rfl rfl rfl rfl sh_75 rfl zco_231 rfl (by omega) (by omega) hM ?_
  rintro o S ⟨b, I2, J2, rfl, rfl, hthr, hans, H2⟩
  refine ⟨_, rfl, ?_⟩
  exact w_tail (pc := 1038) (uc := uc + 1) (us := us + 6) H2 hthr hans (by omega) (by omega) (by omega) K rfl rfl rfl rfl rfl rfl rfl rfl rfl rfl rfl rfl rfl rfl rfl rfl
theorem lc_crowd {L : Nat} {xs : Nat → Int32} {n : Nat} {v5 v6 : Option Value} {uc us : Nat} {p q : Nat} {I : pI} {J : pJ} (hL : L ≤ 3072) (hn : 6 * n + 6 ≤ L) (hu : uc ≤ 108 + n) (hs : us ≤ 23678 + 6 * n) (H : Inv p q I J) (K : LawK L xs n) : LE L xs 1071 (lsl (nI (6 * n)) v5 v6) [] uc us (pm_st 108 (shp p q) I J) := by
  refine g_aload_n (pc := 1071) (pc' := 1072) LEc rfl rfl rfl rfl ?_
  refine w_arg (pc := 1072) hL (by omega : 6 * n + 1 < L) rfl rfl rfl w_e1 rfl rfl ?_
  refine w_arg (pc := 1078) hL (by omega : 6 * n + 2 < L) rfl rfl rfl w_e2 rfl rfl ?_
  refine g_aload_n (pc := 1084) (pc' := 1085) LEc rfl rfl rfl rfl ?_
  have hC := op_crowd H (xs (6 * n + 1)) (xs (6 * n + 2))
  unfold OpH at hC
  refine w_help (pc := 1085) (as := .ref 0 :: ([.int (xs (6 * n + 1)), .int (xs (6 * n + 2))] ++ [.ref 107])) (r := []) rfl rfl rfl rfl zco_283 rfl (by omega) (by omega) hC ?_
  rintro o S ⟨k, p1, q1, I1, J1, rfl, rfl, hM⟩
  refine ⟨_, rfl, ?_⟩
  refine g_istore (pc := 1088) (pc' := 1090) (ls1 := lsl (nI (6 * n)) (some (.int k)) v6) LEc rfl (zlt rfl) rfl rfl ?_
  refine g_aload_n (pc := 1090) (pc' := 1091) LEc rfl rfl rfl rfl ?_
  refine w_arg (pc := 1091) hL (by omega : 6 * n + 1 < L) rfl rfl rfl w_e1 rfl rfl ?_
  refine w_arg (pc := 1097) hL (by omega : 6 * n + 2 < L) rfl rfl rfl w_e2 rfl rfl ?_
  refine w_virt (pc := 1103) (as := [.int (xs (6 * n + 1)), .int (xs (6 * n + 2))]) (a := 75) (r := []) rfl rfl rfl rfl sh_75 rfl zco_235 rfl (by omega) (by omega) hM ?_
  rintro o S ⟨b, I2, J2, rfl, rfl, hthr, hans, H2⟩
  refine ⟨_, rfl, ?_⟩
  exact w_tail (pc := 1106) (uc := uc + 1) (us := us + 6) H2 hthr hans (by omega) (by omega) (by omega) K rfl rfl rfl rfl rfl rfl rfl rfl rfl rfl rfl rfl rfl rfl rfl rfl
theorem lc_round {L : Nat} {xs : Nat → Int32} {n : Nat} {v5 v6 : Option Value} {uc us : Nat} {p q : Nat} {I : pI} {J : pJ} (hL : L ≤ 3072) (hn : 6 * n + 6 ≤ L) (hu : uc ≤ 108 + n) (hs : us ≤ 23678 + 6 * n) (H : Inv p q I J) (K : LawK L xs n) : LE L xs 1139 (lsl (nI (6 * n)) v5 v6) [] uc us (pm_st 108 (shp p q) I J) := by
  refine g_aload_n (pc := 1139) (pc' := 1140) LEc rfl rfl rfl rfl ?_
  have hC := op_round H
  unfold OpD at hC
  refine w_virt (pc := 1140) (as := []) (a := 0) (r := []) rfl rfl rfl rfl sh_0 rfl zco_113 rfl (by omega) (by omega) hC ?_
  rintro o S ⟨x, I1, J1, rfl, rfl, hM⟩
  refine ⟨_, rfl, ?_⟩
  refine g_aload_n (pc := 1143) (pc' := 1144) LEc rfl rfl rfl rfl ?_
  refine w_virt (pc := 1144) (as := []) (a := 75) (r := [.int x]) rfl rfl rfl rfl sh_75 rfl zco_237 rfl (by omega) (by omega) hM ?_
  rintro o S ⟨I2, J2, rfl, rfl, H2⟩
  refine ⟨_, rfl, ?_⟩
  exact g_icmp_eq (pc := 1147) (pc' := 1150) LEc rfl rfl (fun _ => K _ _ _ _ _ _ _ _ H2 (by omega) (by omega)) (fun h => absurd rfl h)
theorem lc_spread {L : Nat} {xs : Nat → Int32} {n : Nat} {v5 v6 : Option Value} {uc us : Nat} {p q : Nat} {I : pI} {J : pJ} (hL : L ≤ 3072) (hn : 6 * n + 6 ≤ L) (hu : uc ≤ 108 + n) (hs : us ≤ 23678 + 6 * n) (H : Inv p q I J) (K : LawK L xs n) : LE L xs 1152 (lsl (nI (6 * n)) v5 v6) [] uc us (pm_st 108 (shp p q) I J) := by
  refine g_aload_n (pc := 1152) (pc' := 1153) LEc rfl rfl rfl rfl ?_
  refine w_arg (pc := 1153) hL (by omega : 6 * n + 1 < L) rfl rfl rfl w_e1 rfl rfl ?_
  refine w_arg (pc := 1159) hL (by omega : 6 * n + 2 < L) rfl rfl rfl w_e2 rfl rfl ?_
  refine g_aload_n (pc := 1165) (pc' := 1166) LEc rfl rfl rfl rfl ?_
  have hC := op_spread H (xs (6 * n + 1)) (xs (6 * n + 2))
  unfold OpH at hC
  refine w_help (pc := 1166) (as := .ref 0 :: ([.int (xs (6 * n + 1)), .int (xs (6 * n + 2))] ++ [.ref 107])) (r := []) rfl rfl rfl rfl zco_284 rfl (by omega) (by omega) hC ?_
  rintro o S ⟨k, p1, q1, I1, J1, rfl, rfl, hM⟩
  refine ⟨_, rfl, ?_⟩
  refine g_istore (pc := 1169) (pc' := 1171) (ls1 := lsl (nI (6 * n)) (some (.int k)) v6) LEc rfl (zlt rfl) rfl rfl ?_
  refine g_aload_n (pc := 1171) (pc' := 1172) LEc rfl rfl rfl rfl ?_
  refine w_arg (pc := 1172) hL (by omega : 6 * n + 1 < L) rfl rfl rfl w_e1 rfl rfl ?_
  refine w_arg (pc := 1178) hL (by omega : 6 * n + 2 < L) rfl rfl rfl w_e2 rfl rfl ?_
  refine w_virt (pc := 1184) (as := [.int (xs (6 * n + 1)), .int (xs (6 * n + 2))]) (a := 75) (r := []) rfl rfl rfl rfl sh_75 rfl zco_238 rfl (by omega) (by omega) hM ?_
  rintro o S ⟨b, I2, J2, rfl, rfl, hthr, hans, H2⟩
  refine ⟨_, rfl, ?_⟩
  exact w_tail (pc := 1187) (uc := uc + 1) (us := us + 6) H2 hthr hans (by omega) (by omega) (by omega) K rfl rfl rfl rfl rfl rfl rfl rfl rfl rfl rfl rfl rfl rfl rfl rfl
theorem lc_way {L : Nat} {xs : Nat → Int32} {n : Nat} {v5 v6 : Option Value} {uc us : Nat} {p q : Nat} {I : pI} {J : pJ} (hL : L ≤ 3072) (hn : 6 * n + 6 ≤ L) (hu : uc ≤ 108 + n) (hs : us ≤ 23678 + 6 * n) (H : Inv p q I J) (K : LawK L xs n) : LE L xs 1220 (lsl (nI (6 * n)) v5 v6) [] uc us (pm_st 108 (shp p q) I J) := by
  refine g_aload_n (pc := 1220) (pc' := 1221) LEc rfl rfl rfl rfl ?_
  refine w_arg (pc := 1221) hL (by omega : 6 * n + 1 < L) rfl rfl rfl w_e1 rfl rfl ?_
  refine w_arg (pc := 1227) hL (by omega : 6 * n + 2 < L) rfl rfl rfl w_e2 rfl rfl ?_
  refine w_arg (pc := 1233) hL (by omega : 6 * n + 3 < L) rfl rfl rfl w_e3 rfl rfl ?_
  refine g_aload_n (pc := 1239) (pc' := 1240) LEc rfl rfl rfl rfl ?_
  have hC := op_way H (xs (6 * n + 1)) (xs (6 * n + 2)) (xs (6 * n + 3))
  unfold OpH at hC
  refine w_help (pc := 1240) (as := .ref 0 :: ([.int (xs (6 * n + 1)), .int (xs (6 * n + 2)), .int (xs (6 * n + 3))] ++ [.ref 107])) (r := []) rfl rfl rfl rfl zco_285 rfl (by omega) (by omega) hC ?_
  rintro o S ⟨k, p1, q1, I1, J1, rfl, rfl, hM⟩
  refine ⟨_, rfl, ?_⟩
  refine g_istore (pc := 1243) (pc' := 1245) (ls1 := lsl (nI (6 * n)) (some (.int k)) v6) LEc rfl (zlt rfl) rfl rfl ?_
  refine g_aload_n (pc := 1245) (pc' := 1246) LEc rfl rfl rfl rfl ?_
  refine w_arg (pc := 1246) hL (by omega : 6 * n + 1 < L) rfl rfl rfl w_e1 rfl rfl ?_
  refine w_arg (pc := 1252) hL (by omega : 6 * n + 2 < L) rfl rfl rfl w_e2 rfl rfl ?_
  refine w_arg (pc := 1258) hL (by omega : 6 * n + 3 < L) rfl rfl rfl w_e3 rfl rfl ?_
  refine w_virt (pc := 1264) (as := [.int (xs (6 * n + 1)), .int (xs (6 * n + 2)), .int (xs (6 * n + 3))]) (a := 75) (r := []) rfl rfl rfl rfl sh_75 rfl zco_243 rfl (by omega) (by omega) hM ?_
  rintro o S ⟨b, I2, J2, rfl, rfl, hthr, hans, H2⟩
  refine ⟨_, rfl, ?_⟩
  exact w_tail (pc := 1267) (uc := uc + 1) (us := us + 6) H2 hthr hans (by omega) (by omega) (by omega) K rfl rfl rfl rfl rfl rfl rfl rfl rfl rfl rfl rfl rfl rfl rfl rfl
theorem lc_toStop {L : Nat} {xs : Nat → Int32} {n : Nat} {v5 v6 : Option Value} {uc us : Nat} {p q : Nat} {I : pI} {J : pJ} (hL : L ≤ 3072) (hn : 6 * n + 6 ≤ L) (hu : uc ≤ 108 + n) (hs : us ≤ 23678 + 6 * n) (H : Inv p q I J) (K : LawK L xs n) : LE L xs 1300 (lsl (nI (6 * n)) v5 v6) [] uc us (pm_st 108 (shp p q) I J) := by
  refine g_aload_n (pc := 1300) (pc' := 1301) LEc rfl rfl rfl rfl ?_
  refine w_arg (pc := 1301) hL (by omega : 6 * n + 1 < L) rfl rfl rfl w_e1 rfl rfl ?_
  refine w_arg (pc := 1307) hL (by omega : 6 * n + 2 < L) rfl rfl rfl w_e2 rfl rfl ?_
  refine w_arg (pc := 1313) hL (by omega : 6 * n + 3 < L) rfl rfl rfl w_e3 rfl rfl ?_
  refine g_aload_n (pc := 1319) (pc' := 1320) LEc rfl rfl rfl rfl ?_
  have hC := op_toStop H (xs (6 * n + 1)) (xs (6 * n + 2)) (xs (6 * n + 3))
  unfold OpH at hC
  refine w_help (pc := 1320) (as := .ref 0 :: ([.int (xs (6 * n + 1)), .int (xs (6 * n + 2)), .int (xs (6 * n + 3))] ++ [.ref 107])) (r := []) rfl rfl rfl rfl zco_286 rfl (by omega) (by omega) hC ?_
  rintro o S ⟨k, p1, q1, I1, J1, rfl, rfl, hM⟩
  refine ⟨_, rfl, ?_⟩
  refine g_istore (pc := 1323) (pc' := 1325) (ls1 := lsl (nI (6 * n)) (some (.int k)) v6) LEc rfl (zlt rfl) rfl rfl ?_
  refine g_aload_n (pc := 1325) (pc' := 1326) LEc rfl rfl rfl rfl ?_
  refine w_arg (pc := 1326) hL (by omega : 6 * n + 1 < L) rfl rfl rfl w_e1 rfl rfl ?_
  refine w_arg (pc := 1332) hL (by omega : 6 * n + 2 < L) rfl rfl rfl w_e2 rfl rfl ?_
  refine w_arg (pc := 1338) hL (by omega : 6 * n + 3 < L) rfl rfl rfl w_e3 rfl rfl ?_
  refine w_virt (pc := 1344) (as := [.int (xs (6 * n + 1)), .int (xs (6 * n + 2)), .int (xs (6 * n + 3))]) (a := 75) (r := []) rfl rfl rfl rfl sh_75 rfl zco_244 rfl (by omega) (by omega) hM ?_
  rintro o S ⟨b, I2, J2, rfl, rfl, hthr, hans, H2⟩
  refine ⟨_, rfl, ?_⟩
  exact w_tail (pc := 1347) (uc := uc + 1) (us := us + 6) H2 hthr hans (by omega) (by omega) (by omega) K rfl rfl rfl rfl rfl rfl rfl rfl rfl rfl rfl rfl rfl rfl rfl rfl
theorem lc_toThin {L : Nat} {xs : Nat → Int32} {n : Nat} {v5 v6 : Option Value} {uc us : Nat} {p q : Nat} {I : pI} {J : pJ} (hL : L ≤ 3072) (hn : 6 * n + 6 ≤ L) (hu : uc ≤ 108 + n) (hs : us ≤ 23678 + 6 * n) (H : Inv p q I J) (K : LawK L xs n) : LE L xs 1380 (lsl (nI (6 * n)) v5 v6) [] uc us (pm_st 108 (shp p q) I J) := by
  refine g_aload_n (pc := 1380) (pc' := 1381) LEc rfl rfl rfl rfl ?_
  refine w_arg (pc := 1381) hL (by omega : 6 * n + 1 < L) rfl rfl rfl w_e1 rfl rfl ?_
  refine g_aload_n (pc := 1387) (pc' := 1388) LEc rfl rfl rfl rfl ?_
  have hC := op_toThin H (xs (6 * n + 1))
  unfold OpH at hC
  refine w_help (pc := 1388) (as := .ref 0 :: ([.int (xs (6 * n + 1))] ++ [.ref 107])) (r := []) rfl rfl rfl rfl zco_287 rfl (by omega) (by omega) hC ?_
  rintro o S ⟨k, p1, q1, I1, J1, rfl, rfl, hM⟩
  refine ⟨_, rfl, ?_⟩
  refine g_istore (pc := 1391) (pc' := 1393) (ls1 := lsl (nI (6 * n)) (some (.int k)) v6) LEc rfl (zlt rfl) rfl rfl ?_
  refine g_aload_n (pc := 1393) (pc' := 1394) LEc rfl rfl rfl rfl ?_
  refine w_arg (pc := 1394) hL (by omega : 6 * n + 1 < L) rfl rfl rfl w_e1 rfl rfl ?_
  refine w_virt (pc := 1400) (as := [.int (xs (6 * n + 1))]) (a := 75) (r := []) rfl rfl rfl rfl sh_75 rfl zco_245 rfl (by omega) (by omega) hM ?_
  rintro o S ⟨b, I2, J2, rfl, rfl, hthr, hans, H2⟩
  refine ⟨_, rfl, ?_⟩
  exact w_tail (pc := 1403) (uc := uc + 1) (us := us + 6) H2 hthr hans (by omega) (by omega) (by omega) K rfl rfl rfl rfl rfl rfl rfl rfl rfl rfl rfl rfl rfl rfl rfl rfl
theorem lc_seats {L : Nat} {xs : Nat → Int32} {n : Nat} {v5 v6 : Option Value} {uc us : Nat} {p q : Nat} {I : pI} {J : pJ} (hL : L ≤ 3072) (hn : 6 * n + 6 ≤ L) (hu : uc ≤ 108 + n) (hs : us ≤ 23678 + 6 * n) (H : Inv p q I J) (K : LawK L xs n) : LE L xs 1436 (lsl (nI (6 * n)) v5 v6) [] uc us (pm_st 108 (shp p q) I J) := by
  refine g_aload_n (pc := 1436) (pc' := 1437) LEc rfl rfl rfl rfl ?_
  refine w_arg (pc := 1437) hL (by omega : 6 * n + 1 < L) rfl rfl rfl w_e1 rfl rfl ?_
  refine g_aload_n (pc := 1443) (pc' := 1444) LEc rfl rfl rfl rfl ?_
  have hC := op_seats H (xs (6 * n + 1))
  unfold OpH at hC
  refine w_help (pc := 1444) (as := .ref 0 :: ([.int (xs (6 * n + 1))] ++ [.ref 107])) (r := []) rfl rfl rfl rfl zco_288 rfl (by omega) (by omega) hC ?_
  rintro o S ⟨k, p1, q1, I1, J1, rfl, rfl, hM⟩
  refine ⟨_, rfl, ?_⟩
  refine g_istore (pc := 1447) (pc' := 1449) (ls1 := lsl (nI (6 * n)) (some (.int k)) v6) LEc rfl (zlt rfl) rfl rfl ?_
  refine g_aload_n (pc := 1449) (pc' := 1450) LEc rfl rfl rfl rfl ?_
  refine w_arg (pc := 1450) hL (by omega : 6 * n + 1 < L) rfl rfl rfl w_e1 rfl rfl ?_
  refine w_virt (pc := 1456) (as := [.int (xs (6 * n + 1))]) (a := 75) (r := []) rfl rfl rfl rfl sh_75 rfl zco_249 rfl (by omega) (by omega) hM ?_
  rintro o S ⟨b, I2, J2, rfl, rfl, hthr, hans, H2⟩
  refine ⟨_, rfl, ?_⟩
  exact w_tail (pc := 1459) (uc := uc + 1) (us := us + 6) H2 hthr hans (by omega) (by omega) (by omega) K rfl rfl rfl rfl rfl rfl rfl rfl rfl rfl rfl rfl rfl rfl rfl rfl
theorem lc_seat {L : Nat} {xs : Nat → Int32} {n : Nat} {v5 v6 : Option Value} {uc us : Nat} {p q : Nat} {I : pI} {J : pJ} (hL : L ≤ 3072) (hn : 6 * n + 6 ≤ L) (hu : uc ≤ 108 + n) (hs : us ≤ 23678 + 6 * n) (H : Inv p q I J) (K : LawK L xs n) : LE L xs 1492 (lsl (nI (6 * n)) v5 v6) [] uc us (pm_st 108 (shp p q) I J) := by
  refine g_aload_n (pc := 1492) (pc' := 1493) LEc rfl rfl rfl rfl ?_
  refine w_arg (pc := 1493) hL (by omega : 6 * n + 1 < L) rfl rfl rfl w_e1 rfl rfl ?_
  refine g_aload_n (pc := 1499) (pc' := 1500) LEc rfl rfl rfl rfl ?_
  have hC := op_seat H (xs (6 * n + 1))
  unfold OpH at hC
  refine w_help (pc := 1500) (as := .ref 0 :: ([.int (xs (6 * n + 1))] ++ [.ref 107])) (r := []) rfl rfl rfl rfl zco_289 rfl (by omega) (by omega) hC ?_
  rintro o S ⟨k, p1, q1, I1, J1, rfl, rfl, hM⟩
  refine ⟨_, rfl, ?_⟩
  refine g_istore (pc := 1503) (pc' := 1505) (ls1 := lsl (nI (6 * n)) (some (.int k)) v6) LEc rfl (zlt rfl) rfl rfl ?_
  refine g_aload_n (pc := 1505) (pc' := 1506) LEc rfl rfl rfl rfl ?_
  refine w_arg (pc := 1506) hL (by omega : 6 * n + 1 < L) rfl rfl rfl w_e1 rfl rfl ?_
  refine w_virt (pc := 1512) (as := [.int (xs (6 * n + 1))]) (a := 75) (r := []) rfl rfl rfl rfl sh_75 rfl zco_250 rfl (by omega) (by omega) hM ?_
  rintro o S ⟨b, I2, J2, rfl, rfl, hthr, hans, H2⟩
  refine ⟨_, rfl, ?_⟩
  exact w_tail (pc := 1515) (uc := uc + 1) (us := us + 6) H2 hthr hans (by omega) (by omega) (by omega) K rfl rfl rfl rfl rfl rfl rfl rfl rfl rfl rfl rfl rfl rfl rfl rfl
theorem lc_note {L : Nat} {xs : Nat → Int32} {n : Nat} {v5 v6 : Option Value} {uc us : Nat} {p q : Nat} {I : pI} {J : pJ} (hL : L ≤ 3072) (hn : 6 * n + 6 ≤ L) (hu : uc ≤ 108 + n) (hs : us ≤ 23678 + 6 * n) (H : Inv p q I J) (K : LawK L xs n) : LE L xs 1548 (lsl (nI (6 * n)) v5 v6) [] uc us (pm_st 108 (shp p q) I J) := by
  refine g_aload_n (pc := 1548) (pc' := 1549) LEc rfl rfl rfl rfl ?_
  refine w_arg (pc := 1549) hL (by omega : 6 * n + 1 < L) rfl rfl rfl w_e1 rfl rfl ?_
  refine w_arg (pc := 1555) hL (by omega : 6 * n + 2 < L) rfl rfl rfl w_e2 rfl rfl ?_
  refine w_arg (pc := 1561) hL (by omega : 6 * n + 3 < L) rfl rfl rfl w_e3 rfl rfl ?_
  refine g_aload_n (pc := 1567) (pc' := 1568) LEc rfl rfl rfl rfl ?_
  have hC := op_note H (xs (6 * n + 1)) (xs (6 * n + 2)) (xs (6 * n + 3))
  unfold OpH at hC
  refine w_help (pc := 1568) (as := .ref 0 :: ([.int (xs (6 * n + 1)), .int (xs (6 * n + 2)), .int (xs (6 * n + 3))] ++ [.ref 107])) (r := []) rfl rfl rfl rfl zco_290 rfl (by omega) (by omega) hC ?_
  rintro o S ⟨k, p1, q1, I1, J1, rfl, rfl, hM⟩
  refine ⟨_, rfl, ?_⟩
  refine g_istore (pc := 1571) (pc' := 1573) (ls1 := lsl (nI (6 * n)) (some (.int k)) v6) LEc rfl (zlt rfl) rfl rfl ?_
  refine g_aload_n (pc := 1573) (pc' := 1574) LEc rfl rfl rfl rfl ?_
  refine w_arg (pc := 1574) hL (by omega : 6 * n + 1 < L) rfl rfl rfl w_e1 rfl rfl ?_
  refine w_arg (pc := 1580) hL (by omega : 6 * n + 2 < L) rfl rfl rfl w_e2 rfl rfl ?_
  refine w_arg (pc := 1586) hL (by omega : 6 * n + 3 < L) rfl rfl rfl w_e3 rfl rfl ?_
  refine w_virt (pc := 1592) (as := [.int (xs (6 * n + 1)), .int (xs (6 * n + 2)), .int (xs (6 * n + 3))]) (a := 75) (r := []) rfl rfl rfl rfl sh_75 rfl zco_251 rfl (by omega) (by omega) hM ?_
  rintro o S ⟨b, I2, J2, rfl, rfl, hthr, hans, H2⟩
  refine ⟨_, rfl, ?_⟩
  exact w_tail (pc := 1595) (uc := uc + 1) (us := us + 6) H2 hthr hans (by omega) (by omega) (by omega) K rfl rfl rfl rfl rfl rfl rfl rfl rfl rfl rfl rfl rfl rfl rfl rfl
theorem lc_forget {L : Nat} {xs : Nat → Int32} {n : Nat} {v5 v6 : Option Value} {uc us : Nat} {p q : Nat} {I : pI} {J : pJ} (hL : L ≤ 3072) (hn : 6 * n + 6 ≤ L) (hu : uc ≤ 108 + n) (hs : us ≤ 23678 + 6 * n) (H : Inv p q I J) (K : LawK L xs n) : LE L xs 1628 (lsl (nI (6 * n)) v5 v6) [] uc us (pm_st 108 (shp p q) I J) := by
  refine g_aload_n (pc := 1628) (pc' := 1629) LEc rfl rfl rfl rfl ?_
  have hC := op_forget H
  unfold OpV at hC
  refine w_virt (pc := 1629) (as := []) (a := 0) (r := []) rfl rfl rfl rfl sh_0 rfl zco_121 rfl (by omega) (by omega) hC ?_
  rintro o S ⟨I1, J1, rfl, rfl, hM⟩
  refine ⟨_, rfl, ?_⟩
  refine g_aload_n (pc := 1632) (pc' := 1633) LEc rfl rfl rfl rfl ?_
  refine w_virt (pc := 1633) (as := []) (a := 75) (r := []) rfl rfl rfl rfl sh_75 rfl zco_252 rfl (by omega) (by omega) hM ?_
  rintro o S ⟨I2, J2, rfl, rfl, H2⟩
  refine ⟨_, rfl, ?_⟩
  exact g_goto (pc := 1636) LEc rfl (K _ _ _ _ _ _ _ _ H2 (by omega) (by omega))
theorem lc_ahead {L : Nat} {xs : Nat → Int32} {n : Nat} {v5 v6 : Option Value} {uc us : Nat} {p q : Nat} {I : pI} {J : pJ} (hL : L ≤ 3072) (hn : 6 * n + 6 ≤ L) (hu : uc ≤ 108 + n) (hs : us ≤ 23678 + 6 * n) (H : Inv p q I J) (K : LawK L xs n) : LE L xs 1639 (lsl (nI (6 * n)) v5 v6) [] uc us (pm_st 108 (shp p q) I J) := by
  refine g_aload_n (pc := 1639) (pc' := 1640) LEc rfl rfl rfl rfl ?_
  refine w_arg (pc := 1640) hL (by omega : 6 * n + 1 < L) rfl rfl rfl w_e1 rfl rfl ?_
  refine g_aload_n (pc := 1646) (pc' := 1647) LEc rfl rfl rfl rfl ?_
  have hC := op_ahead H (xs (6 * n + 1))
  unfold OpH at hC
  refine w_help (pc := 1647) (as := .ref 0 :: ([.int (xs (6 * n + 1))] ++ [.ref 107])) (r := []) rfl rfl rfl rfl zco_291 rfl (by omega) (by omega) hC ?_
  rintro o S ⟨k, p1, q1, I1, J1, rfl, rfl, hM⟩
  refine ⟨_, rfl, ?_⟩
  refine g_istore (pc := 1650) (pc' := 1652) (ls1 := lsl (nI (6 * n)) (some (.int k)) v6) LEc rfl (zlt rfl) rfl rfl ?_
  refine g_aload_n (pc := 1652) (pc' := 1653) LEc rfl rfl rfl rfl ?_
  refine w_arg (pc := 1653) hL (by omega : 6 * n + 1 < L) rfl rfl rfl w_e1 rfl rfl ?_
  refine w_virt (pc := 1659) (as := [.int (xs (6 * n + 1))]) (a := 75) (r := []) rfl rfl rfl rfl sh_75 rfl zco_255 rfl (by omega) (by omega) hM ?_
  rintro o S ⟨b, I2, J2, rfl, rfl, hthr, hans, H2⟩
  refine ⟨_, rfl, ?_⟩
  exact w_tail (pc := 1662) (uc := uc + 1) (us := us + 6) H2 hthr hans (by omega) (by omega) (by omega) K rfl rfl rfl rfl rfl rfl rfl rfl rfl rfl rfl rfl rfl rfl rfl rfl
theorem lc_look {L : Nat} {xs : Nat → Int32} {n : Nat} {v5 v6 : Option Value} {uc us : Nat} {p q : Nat} {I : pI} {J : pJ} (hL : L ≤ 3072) (hn : 6 * n + 6 ≤ L) (hu : uc ≤ 108 + n) (hs : us ≤ 23678 + 6 * n) (H : Inv p q I J) (K : LawK L xs n) : LE L xs 1695 (lsl (nI (6 * n)) v5 v6) [] uc us (pm_st 108 (shp p q) I J) := by
  refine g_aload_n (pc := 1695) (pc' := 1696) LEc rfl rfl rfl rfl ?_
  refine w_arg (pc := 1696) hL (by omega : 6 * n + 1 < L) rfl rfl rfl w_e1 rfl rfl ?_
  refine g_aload_n (pc := 1702) (pc' := 1703) LEc rfl rfl rfl rfl ?_
  have hC := op_look H (xs (6 * n + 1))
  unfold OpH at hC
  refine w_help (pc := 1703) (as := .ref 0 :: ([.int (xs (6 * n + 1))] ++ [.ref 107])) (r := []) rfl rfl rfl rfl zco_292 rfl (by omega) (by omega) hC ?_
  rintro o S ⟨k, p1, q1, I1, J1, rfl, rfl, hM⟩
  refine ⟨_, rfl, ?_⟩
  refine g_istore (pc := 1706) (pc' := 1708) (ls1 := lsl (nI (6 * n)) (some (.int k)) v6) LEc rfl (zlt rfl) rfl rfl ?_
  refine g_aload_n (pc := 1708) (pc' := 1709) LEc rfl rfl rfl rfl ?_
  refine w_arg (pc := 1709) hL (by omega : 6 * n + 1 < L) rfl rfl rfl w_e1 rfl rfl ?_
  refine w_virt (pc := 1715) (as := [.int (xs (6 * n + 1))]) (a := 75) (r := []) rfl rfl rfl rfl sh_75 rfl zco_256 rfl (by omega) (by omega) hM ?_
  rintro o S ⟨b, I2, J2, rfl, rfl, hthr, hans, H2⟩
  refine ⟨_, rfl, ?_⟩
  exact w_tail (pc := 1718) (uc := uc + 1) (us := us + 6) H2 hthr hans (by omega) (by omega) (by omega) K rfl rfl rfl rfl rfl rfl rfl rfl rfl rfl rfl rfl rfl rfl rfl rfl
theorem lc_clouds {L : Nat} {xs : Nat → Int32} {n : Nat} {v5 v6 : Option Value} {uc us : Nat} {p q : Nat} {I : pI} {J : pJ} (hL : L ≤ 3072) (hn : 6 * n + 6 ≤ L) (hu : uc ≤ 108 + n) (hs : us ≤ 23678 + 6 * n) (H : Inv p q I J) (K : LawK L xs n) : LE L xs 1751 (lsl (nI (6 * n)) v5 v6) [] uc us (pm_st 108 (shp p q) I J) := by
  refine g_aload_n (pc := 1751) (pc' := 1752) LEc rfl rfl rfl rfl ?_
  refine w_arg (pc := 1752) hL (by omega : 6 * n + 1 < L) rfl rfl rfl w_e1 rfl rfl ?_
  refine w_arg (pc := 1758) hL (by omega : 6 * n + 2 < L) rfl rfl rfl w_e2 rfl rfl ?_
  refine w_arg (pc := 1764) hL (by omega : 6 * n + 3 < L) rfl rfl rfl w_e3 rfl rfl ?_
  refine w_arg (pc := 1770) hL (by omega : 6 * n + 4 < L) rfl rfl rfl w_e4 rfl rfl ?_
  refine g_aload_n (pc := 1776) (pc' := 1777) LEc rfl rfl rfl rfl ?_
  have hC := op_clouds H (xs (6 * n + 1)) (xs (6 * n + 2)) (xs (6 * n + 3)) (xs (6 * n + 4))
  unfold OpH at hC
  refine w_help (pc := 1777) (as := .ref 0 :: ([.int (xs (6 * n + 1)), .int (xs (6 * n + 2)), .int (xs (6 * n + 3)), .int (xs (6 * n + 4))] ++ [.ref 107])) (r := []) rfl rfl rfl rfl zco_293 rfl (by omega) (by omega) hC ?_
  rintro o S ⟨k, p1, q1, I1, J1, rfl, rfl, hM⟩
  refine ⟨_, rfl, ?_⟩
  refine g_istore (pc := 1780) (pc' := 1782) (ls1 := lsl (nI (6 * n)) (some (.int k)) v6) LEc rfl (zlt rfl) rfl rfl ?_
  refine g_aload_n (pc := 1782) (pc' := 1783) LEc rfl rfl rfl rfl ?_
  refine w_arg (pc := 1783) hL (by omega : 6 * n + 1 < L) rfl rfl rfl w_e1 rfl rfl ?_
  refine w_arg (pc := 1789) hL (by omega : 6 * n + 2 < L) rfl rfl rfl w_e2 rfl rfl ?_
  refine w_arg (pc := 1795) hL (by omega : 6 * n + 3 < L) rfl rfl rfl w_e3 rfl rfl ?_
  refine w_arg (pc := 1801) hL (by omega : 6 * n + 4 < L) rfl rfl rfl w_e4 rfl rfl ?_
  refine w_virt (pc := 1807) (as := [.int (xs (6 * n + 1)), .int (xs (6 * n + 2)), .int (xs (6 * n + 3)), .int (xs (6 * n + 4))]) (a := 75) (r := []) rfl rfl rfl rfl sh_75 rfl zco_257 rfl (by omega) (by omega) hM ?_
  rintro o S ⟨b, I2, J2, rfl, rfl, hthr, hans, H2⟩
  refine ⟨_, rfl, ?_⟩
  exact w_tail (pc := 1810) (uc := uc + 1) (us := us + 6) H2 hthr hans (by omega) (by omega) (by omega) K rfl rfl rfl rfl rfl rfl rfl rfl rfl rfl rfl rfl rfl rfl rfl rfl
theorem lc_game {L : Nat} {xs : Nat → Int32} {n : Nat} {v5 v6 : Option Value} {uc us : Nat} {p q : Nat} {I : pI} {J : pJ} (hL : L ≤ 3072) (hn : 6 * n + 6 ≤ L) (hu : uc ≤ 108 + n) (hs : us ≤ 23678 + 6 * n) (H : Inv p q I J) (K : LawK L xs n) : LE L xs 1843 (lsl (nI (6 * n)) v5 v6) [] uc us (pm_st 108 (shp p q) I J) := by
  refine g_aload_n (pc := 1843) (pc' := 1844) LEc rfl rfl rfl rfl ?_
  refine w_arg (pc := 1844) hL (by omega : 6 * n + 1 < L) rfl rfl rfl w_e1 rfl rfl ?_
  refine w_arg (pc := 1850) hL (by omega : 6 * n + 2 < L) rfl rfl rfl w_e2 rfl rfl ?_
  refine w_arg (pc := 1856) hL (by omega : 6 * n + 3 < L) rfl rfl rfl w_e3 rfl rfl ?_
  refine g_aload_n (pc := 1862) (pc' := 1863) LEc rfl rfl rfl rfl ?_
  have hC := op_game H (xs (6 * n + 1)) (xs (6 * n + 2)) (xs (6 * n + 3))
  unfold OpH at hC
  refine w_help (pc := 1863) (as := .ref 0 :: ([.int (xs (6 * n + 1)), .int (xs (6 * n + 2)), .int (xs (6 * n + 3))] ++ [.ref 107])) (r := []) rfl rfl rfl rfl zco_294 rfl (by omega) (by omega) hC ?_
  rintro o S ⟨k, p1, q1, I1, J1, rfl, rfl, hM⟩
  refine ⟨_, rfl, ?_⟩
  refine g_istore (pc := 1866) (pc' := 1868) (ls1 := lsl (nI (6 * n)) (some (.int k)) v6) LEc rfl (zlt rfl) rfl rfl ?_
  refine g_aload_n (pc := 1868) (pc' := 1869) LEc rfl rfl rfl rfl ?_
  refine w_arg (pc := 1869) hL (by omega : 6 * n + 1 < L) rfl rfl rfl w_e1 rfl rfl ?_
  refine w_arg (pc := 1875) hL (by omega : 6 * n + 2 < L) rfl rfl rfl w_e2 rfl rfl ?_
  refine w_arg (pc := 1881) hL (by omega : 6 * n + 3 < L) rfl rfl rfl w_e3 rfl rfl ?_
  refine w_virt (pc := 1887) (as := [.int (xs (6 * n + 1)), .int (xs (6 * n + 2)), .int (xs (6 * n + 3))]) (a := 75) (r := []) rfl rfl rfl rfl sh_75 rfl zco_259 rfl (by omega) (by omega) hM ?_
  rintro o S ⟨b, I2, J2, rfl, rfl, hthr, hans, H2⟩
  refine ⟨_, rfl, ?_⟩
  exact w_tail (pc := 1890) (uc := uc + 1) (us := us + 6) H2 hthr hans (by omega) (by omega) (by omega) K rfl rfl rfl rfl rfl rfl rfl rfl rfl rfl rfl rfl rfl rfl rfl rfl
theorem lc_years {L : Nat} {xs : Nat → Int32} {n : Nat} {v5 v6 : Option Value} {uc us : Nat} {p q : Nat} {I : pI} {J : pJ} (hL : L ≤ 3072) (hn : 6 * n + 6 ≤ L) (hu : uc ≤ 108 + n) (hs : us ≤ 23678 + 6 * n) (H : Inv p q I J) (K : LawK L xs n) : LE L xs 1923 (lsl (nI (6 * n)) v5 v6) [] uc us (pm_st 108 (shp p q) I J) := by
  refine g_aload_n (pc := 1923) (pc' := 1924) LEc rfl rfl rfl rfl ?_
  refine w_arg (pc := 1924) hL (by omega : 6 * n + 1 < L) rfl rfl rfl w_e1 rfl rfl ?_
  refine w_arg (pc := 1930) hL (by omega : 6 * n + 2 < L) rfl rfl rfl w_e2 rfl rfl ?_
  refine w_arg (pc := 1936) hL (by omega : 6 * n + 3 < L) rfl rfl rfl w_e3 rfl rfl ?_
  refine g_aload_n (pc := 1942) (pc' := 1943) LEc rfl rfl rfl rfl ?_
  have hC := op_years H (xs (6 * n + 1)) (xs (6 * n + 2)) (xs (6 * n + 3))
  unfold OpH at hC
  refine w_help (pc := 1943) (as := .ref 0 :: ([.int (xs (6 * n + 1)), .int (xs (6 * n + 2)), .int (xs (6 * n + 3))] ++ [.ref 107])) (r := []) rfl rfl rfl rfl zco_295 rfl (by omega) (by omega) hC ?_
  rintro o S ⟨k, p1, q1, I1, J1, rfl, rfl, hM⟩
  refine ⟨_, rfl, ?_⟩
  refine g_istore (pc := 1946) (pc' := 1948) (ls1 := lsl (nI (6 * n)) (some (.int k)) v6) LEc rfl (zlt rfl) rfl rfl ?_
  refine g_aload_n (pc := 1948) (pc' := 1949) LEc rfl rfl rfl rfl ?_
  refine w_arg (pc := 1949) hL (by omega : 6 * n + 1 < L) rfl rfl rfl w_e1 rfl rfl ?_
  refine w_arg (pc := 1955) hL (by omega : 6 * n + 2 < L) rfl rfl rfl w_e2 rfl rfl ?_
  refine w_arg (pc := 1961) hL (by omega : 6 * n + 3 < L) rfl rfl rfl w_e3 rfl rfl ?_
  refine w_virt (pc := 1967) (as := [.int (xs (6 * n + 1)), .int (xs (6 * n + 2)), .int (xs (6 * n + 3))]) (a := 75) (r := []) rfl rfl rfl rfl sh_75 rfl zco_262 rfl (by omega) (by omega) hM ?_
  rintro o S ⟨b, I2, J2, rfl, rfl, hthr, hans, H2⟩
  refine ⟨_, rfl, ?_⟩
  exact w_tail (pc := 1970) (uc := uc + 1) (us := us + 6) H2 hthr hans (by omega) (by omega) (by omega) K rfl rfl rfl rfl rfl rfl rfl rfl rfl rfl rfl rfl rfl rfl rfl rfl
theorem lc_later {L : Nat} {xs : Nat → Int32} {n : Nat} {v5 v6 : Option Value} {uc us : Nat} {p q : Nat} {I : pI} {J : pJ} (hL : L ≤ 3072) (hn : 6 * n + 6 ≤ L) (hu : uc ≤ 108 + n) (hs : us ≤ 23678 + 6 * n) (H : Inv p q I J) (K : LawK L xs n) : LE L xs 2003 (lsl (nI (6 * n)) v5 v6) [] uc us (pm_st 108 (shp p q) I J) := by
  refine g_aload_n (pc := 2003) (pc' := 2004) LEc rfl rfl rfl rfl ?_
  refine w_arg (pc := 2004) hL (by omega : 6 * n + 1 < L) rfl rfl rfl w_e1 rfl rfl ?_
  refine w_arg (pc := 2010) hL (by omega : 6 * n + 2 < L) rfl rfl rfl w_e2 rfl rfl ?_
  refine g_aload_n (pc := 2016) (pc' := 2017) LEc rfl rfl rfl rfl ?_
  have hC := op_later H (xs (6 * n + 1)) (xs (6 * n + 2))
  unfold OpH at hC
  refine w_help (pc := 2017) (as := .ref 0 :: ([.int (xs (6 * n + 1)), .int (xs (6 * n + 2))] ++ [.ref 107])) (r := []) rfl rfl rfl rfl zco_296 rfl (by omega) (by omega) hC ?_
  rintro o S ⟨k, p1, q1, I1, J1, rfl, rfl, hM⟩
  refine ⟨_, rfl, ?_⟩
  refine g_istore (pc := 2020) (pc' := 2022) (ls1 := lsl (nI (6 * n)) (some (.int k)) v6) LEc rfl (zlt rfl) rfl rfl ?_
  refine g_aload_n (pc := 2022) (pc' := 2023) LEc rfl rfl rfl rfl ?_
  refine w_arg (pc := 2023) hL (by omega : 6 * n + 1 < L) rfl rfl rfl w_e1 rfl rfl ?_
  refine w_arg (pc := 2029) hL (by omega : 6 * n + 2 < L) rfl rfl rfl w_e2 rfl rfl ?_
  refine w_virt (pc := 2035) (as := [.int (xs (6 * n + 1)), .int (xs (6 * n + 2))]) (a := 75) (r := []) rfl rfl rfl rfl sh_75 rfl zco_239 rfl (by omega) (by omega) hM ?_
  rintro o S ⟨b, I2, J2, rfl, rfl, hthr, hans, H2⟩
  refine ⟨_, rfl, ?_⟩
  exact w_tail (pc := 2038) (uc := uc + 1) (us := us + 6) H2 hthr hans (by omega) (by omega) (by omega) K rfl rfl rfl rfl rfl rfl rfl rfl rfl rfl rfl rfl rfl rfl rfl rfl
theorem lc_together {L : Nat} {xs : Nat → Int32} {n : Nat} {v5 v6 : Option Value} {uc us : Nat} {p q : Nat} {I : pI} {J : pJ} (hL : L ≤ 3072) (hn : 6 * n + 6 ≤ L) (hu : uc ≤ 108 + n) (hs : us ≤ 23678 + 6 * n) (H : Inv p q I J) (K : LawK L xs n) : LE L xs 2071 (lsl (nI (6 * n)) v5 v6) [] uc us (pm_st 108 (shp p q) I J) := by
  refine g_aload_n (pc := 2071) (pc' := 2072) LEc rfl rfl rfl rfl ?_
  refine w_arg (pc := 2072) hL (by omega : 6 * n + 1 < L) rfl rfl rfl w_e1 rfl rfl ?_
  refine w_arg (pc := 2078) hL (by omega : 6 * n + 2 < L) rfl rfl rfl w_e2 rfl rfl ?_
  refine w_arg (pc := 2084) hL (by omega : 6 * n + 3 < L) rfl rfl rfl w_e3 rfl rfl ?_
  refine g_aload_n (pc := 2090) (pc' := 2091) LEc rfl rfl rfl rfl ?_
  have hC := op_together H (xs (6 * n + 1)) (xs (6 * n + 2)) (xs (6 * n + 3))
  unfold OpH at hC
  refine w_help (pc := 2091) (as := .ref 0 :: ([.int (xs (6 * n + 1)), .int (xs (6 * n + 2)), .int (xs (6 * n + 3))] ++ [.ref 107])) (r := []) rfl rfl rfl rfl zco_297 rfl (by omega) (by omega) hC ?_
  rintro o S ⟨k, p1, q1, I1, J1, rfl, rfl, hM⟩
  refine ⟨_, rfl, ?_⟩
  refine g_istore (pc := 2094) (pc' := 2096) (ls1 := lsl (nI (6 * n)) (some (.int k)) v6) LEc rfl (zlt rfl) rfl rfl ?_
  refine g_aload_n (pc := 2096) (pc' := 2097) LEc rfl rfl rfl rfl ?_
  refine w_arg (pc := 2097) hL (by omega : 6 * n + 1 < L) rfl rfl rfl w_e1 rfl rfl ?_
  refine w_arg (pc := 2103) hL (by omega : 6 * n + 2 < L) rfl rfl rfl w_e2 rfl rfl ?_
  refine w_arg (pc := 2109) hL (by omega : 6 * n + 3 < L) rfl rfl rfl w_e3 rfl rfl ?_
  refine w_virt (pc := 2115) (as := [.int (xs (6 * n + 1)), .int (xs (6 * n + 2)), .int (xs (6 * n + 3))]) (a := 75) (r := []) rfl rfl rfl rfl sh_75 rfl zco_240 rfl (by omega) (by omega) hM ?_
  rintro o S ⟨b, I2, J2, rfl, rfl, hthr, hans, H2⟩
  refine ⟨_, rfl, ?_⟩
  exact w_tail (pc := 2118) (uc := uc + 1) (us := us + 6) H2 hthr hans (by omega) (by omega) (by omega) K rfl rfl rfl rfl rfl rfl rfl rfl rfl rfl rfl rfl rfl rfl rfl rfl
theorem lc_quiet {L : Nat} {xs : Nat → Int32} {n : Nat} {v5 v6 : Option Value} {uc us : Nat} {p q : Nat} {I : pI} {J : pJ} (hL : L ≤ 3072) (hn : 6 * n + 6 ≤ L) (hu : uc ≤ 108 + n) (hs : us ≤ 23678 + 6 * n) (H : Inv p q I J) (K : LawK L xs n) : LE L xs 2151 (lsl (nI (6 * n)) v5 v6) [] uc us (pm_st 108 (shp p q) I J) := by
  refine g_aload_n (pc := 2151) (pc' := 2152) LEc rfl rfl rfl rfl ?_
  refine w_arg (pc := 2152) hL (by omega : 6 * n + 1 < L) rfl rfl rfl w_e1 rfl rfl ?_
  refine w_arg (pc := 2158) hL (by omega : 6 * n + 2 < L) rfl rfl rfl w_e2 rfl rfl ?_
  refine g_aload_n (pc := 2164) (pc' := 2165) LEc rfl rfl rfl rfl ?_
  have hC := op_quiet H (xs (6 * n + 1)) (xs (6 * n + 2))
  unfold OpH at hC
  refine w_help (pc := 2165) (as := .ref 0 :: ([.int (xs (6 * n + 1)), .int (xs (6 * n + 2))] ++ [.ref 107])) (r := []) rfl rfl rfl rfl zco_298 rfl (by omega) (by omega) hC ?_
  rintro o S ⟨k, p1, q1, I1, J1, rfl, rfl, hM⟩
  refine ⟨_, rfl, ?_⟩
  refine g_istore (pc := 2168) (pc' := 2170) (ls1 := lsl (nI (6 * n)) (some (.int k)) v6) LEc rfl (zlt rfl) rfl rfl ?_
  refine g_aload_n (pc := 2170) (pc' := 2171) LEc rfl rfl rfl rfl ?_
  refine w_arg (pc := 2171) hL (by omega : 6 * n + 1 < L) rfl rfl rfl w_e1 rfl rfl ?_
  refine w_arg (pc := 2177) hL (by omega : 6 * n + 2 < L) rfl rfl rfl w_e2 rfl rfl ?_
  refine w_virt (pc := 2183) (as := [.int (xs (6 * n + 1)), .int (xs (6 * n + 2))]) (a := 75) (r := []) rfl rfl rfl rfl sh_75 rfl zco_241 rfl (by omega) (by omega) hM ?_
  rintro o S ⟨b, I2, J2, rfl, rfl, hthr, hans, H2⟩
  refine ⟨_, rfl, ?_⟩
  exact w_tail (pc := 2186) (uc := uc + 1) (us := us + 6) H2 hthr hans (by omega) (by omega) (by omega) K rfl rfl rfl rfl rfl rfl rfl rfl rfl rfl rfl rfl rfl rfl rfl rfl
theorem lc_gone {L : Nat} {xs : Nat → Int32} {n : Nat} {v5 v6 : Option Value} {uc us : Nat} {p q : Nat} {I : pI} {J : pJ} (hL : L ≤ 3072) (hn : 6 * n + 6 ≤ L) (hu : uc ≤ 108 + n) (hs : us ≤ 23678 + 6 * n) (H : Inv p q I J) (K : LawK L xs n) : LE L xs 2219 (lsl (nI (6 * n)) v5 v6) [] uc us (pm_st 108 (shp p q) I J) := by
  refine g_aload_n (pc := 2219) (pc' := 2220) LEc rfl rfl rfl rfl ?_
  refine w_arg (pc := 2220) hL (by omega : 6 * n + 1 < L) rfl rfl rfl w_e1 rfl rfl ?_
  refine w_arg (pc := 2226) hL (by omega : 6 * n + 2 < L) rfl rfl rfl w_e2 rfl rfl ?_
  refine g_aload_n (pc := 2232) (pc' := 2233) LEc rfl rfl rfl rfl ?_
  have hC := op_gone H (xs (6 * n + 1)) (xs (6 * n + 2))
  unfold OpH at hC
  refine w_help (pc := 2233) (as := .ref 0 :: ([.int (xs (6 * n + 1)), .int (xs (6 * n + 2))] ++ [.ref 107])) (r := []) rfl rfl rfl rfl zco_299 rfl (by omega) (by omega) hC ?_
  rintro o S ⟨k, p1, q1, I1, J1, rfl, rfl, hM⟩
  refine ⟨_, rfl, ?_⟩
  refine g_istore (pc := 2236) (pc' := 2238) (ls1 := lsl (nI (6 * n)) (some (.int k)) v6) LEc rfl (zlt rfl) rfl rfl ?_
  refine g_aload_n (pc := 2238) (pc' := 2239) LEc rfl rfl rfl rfl ?_
  refine w_arg (pc := 2239) hL (by omega : 6 * n + 1 < L) rfl rfl rfl w_e1 rfl rfl ?_
  refine w_arg (pc := 2245) hL (by omega : 6 * n + 2 < L) rfl rfl rfl w_e2 rfl rfl ?_
  refine w_virt (pc := 2251) (as := [.int (xs (6 * n + 1)), .int (xs (6 * n + 2))]) (a := 75) (r := []) rfl rfl rfl rfl sh_75 rfl zco_242 rfl (by omega) (by omega) hM ?_
  rintro o S ⟨b, I2, J2, rfl, rfl, hthr, hans, H2⟩
  refine ⟨_, rfl, ?_⟩
  exact w_tail (pc := 2254) (uc := uc + 1) (us := us + 6) H2 hthr hans (by omega) (by omega) (by omega) K rfl rfl rfl rfl rfl rfl rfl rfl rfl rfl rfl rfl rfl rfl rfl rfl
theorem lc_image {L : Nat} {xs : Nat → Int32} {n : Nat} {v5 v6 : Option Value} {uc us : Nat} {p q : Nat} {I : pI} {J : pJ} (hL : L ≤ 3072) (hn : 6 * n + 6 ≤ L) (hu : uc ≤ 108 + n) (hs : us ≤ 23678 + 6 * n) (H : Inv p q I J) (K : LawK L xs n) : LE L xs 2287 (lsl (nI (6 * n)) v5 v6) [] uc us (pm_st 108 (shp p q) I J) := by
  refine g_aload_n (pc := 2287) (pc' := 2288) LEc rfl rfl rfl rfl ?_
  have hC := op_image H
  unfold OpV at hC
  refine w_virt (pc := 2288) (as := []) (a := 0) (r := []) rfl rfl rfl rfl sh_0 rfl zco_131 rfl (by omega) (by omega) hC ?_
  rintro o S ⟨I1, J1, rfl, rfl, hM⟩
  refine ⟨_, rfl, ?_⟩
  refine g_aload_n (pc := 2291) (pc' := 2292) LEc rfl rfl rfl rfl ?_
  refine w_virt (pc := 2292) (as := []) (a := 75) (r := []) rfl rfl rfl rfl sh_75 rfl zco_263 rfl (by omega) (by omega) hM ?_
  rintro o S ⟨I2, J2, rfl, rfl, H2⟩
  refine ⟨_, rfl, ?_⟩
  exact g_goto (pc := 2295) LEc rfl (K _ _ _ _ _ _ _ _ H2 (by omega) (by omega))
theorem lc_restore {L : Nat} {xs : Nat → Int32} {n : Nat} {v5 v6 : Option Value} {uc us : Nat} {p q : Nat} {I : pI} {J : pJ} (hL : L ≤ 3072) (hn : 6 * n + 6 ≤ L) (hu : uc ≤ 108 + n) (hs : us ≤ 23678 + 6 * n) (H : Inv p q I J) (K : LawK L xs n) : LE L xs 2298 (lsl (nI (6 * n)) v5 v6) [] uc us (pm_st 108 (shp p q) I J) := by
  refine g_aload_n (pc := 2298) (pc' := 2299) LEc rfl rfl rfl rfl ?_
  have hC := op_restore H
  unfold OpD at hC
  refine w_virt (pc := 2299) (as := []) (a := 0) (r := []) rfl rfl rfl rfl sh_0 rfl zco_132 rfl (by omega) (by omega) hC ?_
  rintro o S ⟨x, I1, J1, rfl, rfl, hM⟩
  refine ⟨_, rfl, ?_⟩
  refine g_aload_n (pc := 2302) (pc' := 2303) LEc rfl rfl rfl rfl ?_
  refine w_virt (pc := 2303) (as := []) (a := 75) (r := [.int x]) rfl rfl rfl rfl sh_75 rfl zco_264 rfl (by omega) (by omega) hM ?_
  rintro o S ⟨I2, J2, rfl, rfl, H2⟩
  refine ⟨_, rfl, ?_⟩
  exact g_icmp_eq (pc := 2306) (pc' := 2309) LEc rfl rfl (fun _ => K _ _ _ _ _ _ _ _ H2 (by omega) (by omega)) (fun h => absurd rfl h)
