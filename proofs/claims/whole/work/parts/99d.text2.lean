/-! the methods of a text -/
theorem yk_269 : pm_okY YS TW 269 0 := ⟨inT_ok (pos := 3238) (by decide +kernel), by decide +kernel, by decide +kernel, by decide +kernel, by decide +kernel, inT_ok (pos := 1020) (by decide +kernel)⟩
theorem yh_269 : pm_hh 269 = [] := by decide +kernel
theorem yc_269 : cost 269 = (0, 0, false, false) := by rfl
theorem yp_269 : plainName (YS 269).1.cls = true := by decide +kernel
theorem yk_270 : pm_okY YS TW 270 1 := ⟨inT_ok (pos := 4072) (by decide +kernel), by decide +kernel, by decide +kernel, by decide +kernel, by decide +kernel, inT_ok (pos := 1020) (by decide +kernel)⟩
theorem yh_270 : pm_hh 270 = [] := by decide +kernel
theorem yc_270 : cost 270 = (0, 0, false, false) := by rfl
theorem yp_270 : plainName (YS 270).1.cls = true := by decide +kernel
theorem yk_271 : pm_okY YS TW 271 1 := ⟨inT_ok (pos := 3224) (by decide +kernel), by decide +kernel, by decide +kernel, by decide +kernel, by decide +kernel, inT_ok (pos := 1020) (by decide +kernel)⟩
theorem yh_271 : pm_hh 271 = [] := by decide +kernel
theorem yc_271 : cost 271 = (0, 0, false, false) := by rfl
theorem yp_271 : plainName (YS 271).1.cls = true := by decide +kernel
theorem yk_300 : pm_okY YS TW 300 0 := ⟨inT_ok (pos := 4002) (by decide +kernel), by decide +kernel, by decide +kernel, by decide +kernel, by decide +kernel, inT_ok (pos := 1020) (by decide +kernel)⟩
theorem yh_300 : pm_hh 300 = [] := by decide +kernel
theorem yc_300 : cost 300 = (0, 0, false, false) := by rfl
theorem yp_300 : plainName (YS 300).1.cls = true := by decide +kernel
theorem yk_301 : pm_okY YS TW 301 0 := ⟨inT_ok (pos := 3232) (by decide +kernel), by decide +kernel, by decide +kernel, by decide +kernel, by decide +kernel, inT_ok (pos := 1020) (by decide +kernel)⟩
theorem yh_301 : pm_hh 301 = [] := by decide +kernel
theorem yc_301 : cost 301 = (0, 0, false, false) := by rfl
theorem yp_301 : plainName (YS 301).1.cls = true := by decide +kernel
theorem yk_302 : pm_okY YS TW 302 2 := ⟨inT_ok (pos := 3228) (by decide +kernel), by decide +kernel, by decide +kernel, by decide +kernel, by decide +kernel, inT_ok (pos := 1020) (by decide +kernel)⟩
theorem yh_302 : pm_hh 302 = [] := by decide +kernel
theorem yc_302 : cost 302 = (0, 0, false, false) := by rfl
theorem yp_302 : plainName (YS 302).1.cls = true := by decide +kernel
theorem yk_303 : pm_okY YS TW 303 4 := ⟨inT_ok (pos := 4005) (by decide +kernel), by decide +kernel, by decide +kernel, by decide +kernel, by decide +kernel, inT_ok (pos := 1021) (by decide +kernel)⟩
theorem yh_303 : pm_hh 303 = [] := by decide +kernel
theorem yc_303 : cost 303 = (0, 0, false, false) := by rfl
theorem yp_303 : plainName (YS 303).1.cls = true := by decide +kernel
theorem yk_304 : pm_okY YS TW 304 1 := ⟨inT_ok (pos := 4008) (by decide +kernel), by decide +kernel, by decide +kernel, by decide +kernel, by decide +kernel, inT_ok (pos := 1021) (by decide +kernel)⟩
theorem yh_304 : pm_hh 304 = [] := by decide +kernel
theorem yc_304 : cost 304 = (0, 0, false, false) := by rfl
theorem yp_304 : plainName (YS 304).1.cls = true := by decide +kernel
theorem yk_305 : pm_okY YS TW 305 4 := ⟨inT_ok (pos := 4013) (by decide +kernel), by decide +kernel, by decide +kernel, by decide +kernel, by decide +kernel, inT_ok (pos := 1021) (by decide +kernel)⟩
theorem yh_305 : pm_hh 305 = [] := by decide +kernel
theorem yc_305 : cost 305 = (0, 0, false, false) := by rfl
theorem yp_305 : plainName (YS 305).1.cls = true := by decide +kernel
theorem yk_306 : pm_okY YS TW 306 2 := ⟨inT_ok (pos := 4075) (by decide +kernel), by decide +kernel, by decide +kernel, by decide +kernel, by decide +kernel, inT_ok (pos := 1021) (by decide +kernel)⟩
theorem yh_306 : pm_hh 306 = [] := by decide +kernel
theorem yc_306 : cost 306 = (0, 0, false, false) := by rfl
theorem yp_306 : plainName (YS 306).1.cls = true := by decide +kernel
theorem yk_307 : pm_okY YS TW 307 2 := ⟨inT_ok (pos := 4078) (by decide +kernel), by decide +kernel, by decide +kernel, by decide +kernel, by decide +kernel, inT_ok (pos := 1020) (by decide +kernel)⟩
theorem yh_307 : pm_hh 307 = [] := by decide +kernel
theorem yc_307 : cost 307 = (0, 0, false, false) := by rfl
theorem yp_307 : plainName (YS 307).1.cls = true := by decide +kernel
theorem yk_308 : pm_okY YS TW 308 3 := ⟨inT_ok (pos := 4081) (by decide +kernel), by decide +kernel, by decide +kernel, by decide +kernel, by decide +kernel, inT_ok (pos := 1024) (by decide +kernel)⟩
theorem yh_308 : pm_hh 308 = [] := by decide +kernel
theorem yc_308 : cost 308 = (0, 0, false, false) := by rfl
theorem yp_308 : plainName (YS 308).1.cls = true := by decide +kernel
theorem dd_269_0 : decode (YS 269).2.1 0 = .ok (.aload_n 0, 1) := by decide +kernel
theorem dd_269_1 : decode (YS 269).2.1 1 = .ok (.getfield 9, 3) := by decide +kernel
theorem dd_269_4 : decode (YS 269).2.1 4 = .ok (.arraylength, 1) := by decide +kernel
theorem dd_269_5 : decode (YS 269).2.1 5 = .ok (.aload_n 0, 1) := by decide +kernel
theorem dd_269_6 : decode (YS 269).2.1 6 = .ok (.invokevirtual 335, 3) := by decide +kernel
theorem dd_269_9 : decode (YS 269).2.1 9 = .ok (.ishr, 1) := by decide +kernel
theorem dd_269_10 : decode (YS 269).2.1 10 = .ok (.ireturn, 1) := by decide +kernel
theorem dd_270_0 : decode (YS 270).2.1 0 = .ok (.aload_n 0, 1) := by decide +kernel
theorem dd_270_1 : decode (YS 270).2.1 1 = .ok (.invokevirtual 492, 3) := by decide +kernel
theorem dd_270_4 : decode (YS 270).2.1 4 = .ok (.ifCond .eq 12, 3) := by decide +kernel
theorem dd_270_7 : decode (YS 270).2.1 7 = .ok (.aload_n 0, 1) := by decide +kernel
theorem dd_270_8 : decode (YS 270).2.1 8 = .ok (.getfield 9, 3) := by decide +kernel
theorem dd_270_11 : decode (YS 270).2.1 11 = .ok (.iload_n 1, 1) := by decide +kernel
theorem dd_270_12 : decode (YS 270).2.1 12 = .ok (.invokestatic 495, 3) := by decide +kernel
theorem dd_270_15 : decode (YS 270).2.1 15 = .ok (.ireturn, 1) := by decide +kernel
theorem dd_271_0 : decode (YS 271).2.1 0 = .ok (.aload_n 0, 1) := by decide +kernel
theorem dd_271_1 : decode (YS 271).2.1 1 = .ok (.iload_n 1, 1) := by decide +kernel
theorem dd_271_2 : decode (YS 271).2.1 2 = .ok (.iconst 0, 1) := by decide +kernel
theorem dd_271_3 : decode (YS 271).2.1 3 = .ok (.invokevirtual 633, 3) := by decide +kernel
theorem dd_271_6 : decode (YS 271).2.1 6 = .ok (.ireturn, 1) := by decide +kernel
theorem dd_300_0 : decode (YS 300).2.1 0 = .ok (.getstatic 38, 3) := by decide +kernel
theorem dd_300_3 : decode (YS 300).2.1 3 = .ok (.ifCond .eq 10, 3) := by decide +kernel
theorem dd_300_6 : decode (YS 300).2.1 6 = .ok (.aload_n 0, 1) := by decide +kernel
theorem dd_300_7 : decode (YS 300).2.1 7 = .ok (.getfield 15, 3) := by decide +kernel
theorem dd_300_10 : decode (YS 300).2.1 10 = .ok (.goto 4, 3) := by decide +kernel
theorem dd_300_14 : decode (YS 300).2.1 14 = .ok (.ireturn, 1) := by decide +kernel
theorem dd_301_0 : decode (YS 301).2.1 0 = .ok (.getstatic 38, 3) := by decide +kernel
theorem dd_301_3 : decode (YS 301).2.1 3 = .ok (.ifCond .eq 14, 3) := by decide +kernel
theorem dd_301_6 : decode (YS 301).2.1 6 = .ok (.aload_n 0, 1) := by decide +kernel
theorem dd_301_7 : decode (YS 301).2.1 7 = .ok (.getfield 15, 3) := by decide +kernel
theorem dd_301_10 : decode (YS 301).2.1 10 = .ok (.ifCond .ne 7, 3) := by decide +kernel
theorem dd_301_13 : decode (YS 301).2.1 13 = .ok (.iconst 1, 1) := by decide +kernel
theorem dd_301_14 : decode (YS 301).2.1 14 = .ok (.goto 4, 3) := by decide +kernel
theorem dd_301_18 : decode (YS 301).2.1 18 = .ok (.ireturn, 1) := by decide +kernel
theorem dd_302_0 : decode (YS 302).2.1 0 = .ok (.aload_n 0, 1) := by decide +kernel
theorem dd_302_1 : decode (YS 302).2.1 1 = .ok (.invokevirtual 492, 3) := by decide +kernel
theorem dd_302_4 : decode (YS 302).2.1 4 = .ok (.ifCond .eq 19, 3) := by decide +kernel
theorem dd_302_7 : decode (YS 302).2.1 7 = .ok (.aload_n 0, 1) := by decide +kernel
theorem dd_302_8 : decode (YS 302).2.1 8 = .ok (.getfield 9, 3) := by decide +kernel
theorem dd_302_11 : decode (YS 302).2.1 11 = .ok (.iload_n 1, 1) := by decide +kernel
theorem dd_302_12 : decode (YS 302).2.1 12 = .ok (.iload_n 2, 1) := by decide +kernel
theorem dd_302_13 : decode (YS 302).2.1 13 = .ok (.aload_n 0, 1) := by decide +kernel
theorem dd_302_14 : decode (YS 302).2.1 14 = .ok (.invokevirtual 505, 3) := by decide +kernel
theorem dd_302_17 : decode (YS 302).2.1 17 = .ok (.invokestatic 637, 3) := by decide +kernel
theorem dd_302_20 : decode (YS 302).2.1 20 = .ok (.goto 16, 3) := by decide +kernel
theorem dd_302_36 : decode (YS 302).2.1 36 = .ok (.ireturn, 1) := by decide +kernel
theorem dd_303_0 : decode (YS 303).2.1 0 = .ok (.iload_n 1, 1) := by decide +kernel
theorem dd_303_1 : decode (YS 303).2.1 1 = .ok (.invokestatic 88, 3) := by decide +kernel
theorem dd_303_4 : decode (YS 303).2.1 4 = .ok (.ifCond .ne 5, 3) := by decide +kernel
theorem dd_303_7 : decode (YS 303).2.1 7 = .ok (.iconst (-1), 1) := by decide +kernel
theorem dd_303_8 : decode (YS 303).2.1 8 = .ok (.ireturn, 1) := by decide +kernel
theorem dd_303_9 : decode (YS 303).2.1 9 = .ok (.iload_n 2, 1) := by decide +kernel
theorem dd_303_10 : decode (YS 303).2.1 10 = .ok (.iconst 0, 1) := by decide +kernel
theorem dd_303_11 : decode (YS 303).2.1 11 = .ok (.invokestatic 92, 3) := by decide +kernel
theorem dd_303_14 : decode (YS 303).2.1 14 = .ok (.istore_n 2, 1) := by decide +kernel
theorem dd_303_15 : decode (YS 303).2.1 15 = .ok (.iload_n 3, 1) := by decide +kernel
theorem dd_303_16 : decode (YS 303).2.1 16 = .ok (.aload_n 0, 1) := by decide +kernel
theorem dd_303_17 : decode (YS 303).2.1 17 = .ok (.arraylength, 1) := by decide +kernel
theorem dd_303_18 : decode (YS 303).2.1 18 = .ok (.invokestatic 38, 3) := by decide +kernel
theorem dd_303_21 : decode (YS 303).2.1 21 = .ok (.istore_n 3, 1) := by decide +kernel
theorem dd_303_22 : decode (YS 303).2.1 22 = .ok (.iload_n 2, 1) := by decide +kernel
theorem dd_303_23 : decode (YS 303).2.1 23 = .ok (.iload_n 3, 1) := by decide +kernel
theorem dd_303_24 : decode (YS 303).2.1 24 = .ok (.if_icmp .lt 5, 3) := by decide +kernel
theorem dd_303_29 : decode (YS 303).2.1 29 = .ok (.aload_n 0, 1) := by decide +kernel
theorem dd_303_30 : decode (YS 303).2.1 30 = .ok (.iload_n 1, 1) := by decide +kernel
theorem dd_303_31 : decode (YS 303).2.1 31 = .ok (.iload_n 2, 1) := by decide +kernel
theorem dd_303_32 : decode (YS 303).2.1 32 = .ok (.iload_n 3, 1) := by decide +kernel
theorem dd_303_33 : decode (YS 303).2.1 33 = .ok (.invokestatic 95, 3) := by decide +kernel
theorem dd_303_36 : decode (YS 303).2.1 36 = .ok (.ireturn, 1) := by decide +kernel
theorem dd_304_0 : decode (YS 304).2.1 0 = .ok (.iload_n 0, 1) := by decide +kernel
theorem dd_304_1 : decode (YS 304).2.1 1 = .ok (.ifCond .lt 14, 3) := by decide +kernel
theorem dd_304_4 : decode (YS 304).2.1 4 = .ok (.iload_n 0, 1) := by decide +kernel
theorem dd_304_5 : decode (YS 304).2.1 5 = .ok (.sipush 255, 3) := by decide +kernel
theorem dd_304_8 : decode (YS 304).2.1 8 = .ok (.if_icmp .gt 7, 3) := by decide +kernel
theorem dd_304_11 : decode (YS 304).2.1 11 = .ok (.iconst 1, 1) := by decide +kernel
theorem dd_304_12 : decode (YS 304).2.1 12 = .ok (.goto 4, 3) := by decide +kernel
theorem dd_304_15 : decode (YS 304).2.1 15 = .ok (.iconst 0, 1) := by decide +kernel
theorem dd_304_16 : decode (YS 304).2.1 16 = .ok (.ireturn, 1) := by decide +kernel
theorem dd_305_0 : decode (YS 305).2.1 0 = .ok (.iload_n 1, 1) := by decide +kernel
theorem dd_305_1 : decode (YS 305).2.1 1 = .ok (.i2b, 1) := by decide +kernel
theorem dd_305_2 : decode (YS 305).2.1 2 = .ok (.istore 4, 2) := by decide +kernel
theorem dd_305_4 : decode (YS 305).2.1 4 = .ok (.iload_n 2, 1) := by decide +kernel
theorem dd_305_5 : decode (YS 305).2.1 5 = .ok (.istore 5, 2) := by decide +kernel
theorem dd_305_7 : decode (YS 305).2.1 7 = .ok (.iload 5, 2) := by decide +kernel
theorem dd_305_9 : decode (YS 305).2.1 9 = .ok (.iload_n 3, 1) := by decide +kernel
theorem dd_305_10 : decode (YS 305).2.1 10 = .ok (.if_icmp .ge 21, 3) := by decide +kernel
theorem dd_305_13 : decode (YS 305).2.1 13 = .ok (.aload_n 0, 1) := by decide +kernel
theorem dd_305_14 : decode (YS 305).2.1 14 = .ok (.iload 5, 2) := by decide +kernel
theorem dd_305_16 : decode (YS 305).2.1 16 = .ok (.baload, 1) := by decide +kernel
theorem dd_305_17 : decode (YS 305).2.1 17 = .ok (.iload 4, 2) := by decide +kernel
theorem dd_305_19 : decode (YS 305).2.1 19 = .ok (.if_icmp .ne 6, 3) := by decide +kernel
theorem dd_305_22 : decode (YS 305).2.1 22 = .ok (.iload 5, 2) := by decide +kernel
theorem dd_305_24 : decode (YS 305).2.1 24 = .ok (.ireturn, 1) := by decide +kernel
theorem dd_305_25 : decode (YS 305).2.1 25 = .ok (.iinc 5 1, 3) := by decide +kernel
theorem dd_305_28 : decode (YS 305).2.1 28 = .ok (.goto (-21), 3) := by decide +kernel
theorem dd_305_31 : decode (YS 305).2.1 31 = .ok (.iconst (-1), 1) := by decide +kernel
theorem dd_305_32 : decode (YS 305).2.1 32 = .ok (.ireturn, 1) := by decide +kernel
theorem dd_306_0 : decode (YS 306).2.1 0 = .ok (.iload_n 1, 1) := by decide +kernel
theorem dd_306_1 : decode (YS 306).2.1 1 = .ok (.aload_n 0, 1) := by decide +kernel
theorem dd_306_2 : decode (YS 306).2.1 2 = .ok (.arraylength, 1) := by decide +kernel
theorem dd_306_3 : decode (YS 306).2.1 3 = .ok (.invokestatic 9, 3) := by decide +kernel
theorem dd_306_6 : decode (YS 306).2.1 6 = .ok (.aload_n 0, 1) := by decide +kernel
theorem dd_306_7 : decode (YS 306).2.1 7 = .ok (.iload_n 1, 1) := by decide +kernel
theorem dd_306_8 : decode (YS 306).2.1 8 = .ok (.baload, 1) := by decide +kernel
theorem dd_306_9 : decode (YS 306).2.1 9 = .ok (.sipush 255, 3) := by decide +kernel
theorem dd_306_12 : decode (YS 306).2.1 12 = .ok (.iand, 1) := by decide +kernel
theorem dd_306_13 : decode (YS 306).2.1 13 = .ok (.i2c, 1) := by decide +kernel
theorem dd_306_14 : decode (YS 306).2.1 14 = .ok (.ireturn, 1) := by decide +kernel
theorem dd_307_0 : decode (YS 307).2.1 0 = .ok (.iload_n 0, 1) := by decide +kernel
theorem dd_307_1 : decode (YS 307).2.1 1 = .ok (.iload_n 1, 1) := by decide +kernel
theorem dd_307_2 : decode (YS 307).2.1 2 = .ok (.getstatic 1053, 3) := by decide +kernel
theorem dd_307_5 : decode (YS 307).2.1 5 = .ok (.invokestatic 1059, 3) := by decide +kernel
theorem dd_307_8 : decode (YS 307).2.1 8 = .ok (.pop, 1) := by decide +kernel
theorem dd_307_9 : decode (YS 307).2.1 9 = .ok (.return_, 1) := by decide +kernel
theorem dd_308_0 : decode (YS 308).2.1 0 = .ok (.iload_n 0, 1) := by decide +kernel
theorem dd_308_1 : decode (YS 308).2.1 1 = .ok (.ifCond .lt 8, 3) := by decide +kernel
theorem dd_308_4 : decode (YS 308).2.1 4 = .ok (.iload_n 0, 1) := by decide +kernel
theorem dd_308_5 : decode (YS 308).2.1 5 = .ok (.iload_n 1, 1) := by decide +kernel
theorem dd_308_6 : decode (YS 308).2.1 6 = .ok (.if_icmp .lt 10, 3) := by decide +kernel
theorem dd_308_16 : decode (YS 308).2.1 16 = .ok (.iload_n 0, 1) := by decide +kernel
theorem dd_308_17 : decode (YS 308).2.1 17 = .ok (.ireturn, 1) := by decide +kernel
theorem tx_shr0 {k : Nat} (hk : k < 26) : Int32.ofNat (tx_len.getD k 0) >>> ((0 : Int32) &&& 31) = Int32.ofNat (tx_len.getD k 0) := by
  revert k
  decide +kernel
theorem tx_chr : ∀ k, k < 26 → ∀ i, i < tx_len.getD k 0 → (((tx_byt.getD k []).getD i 0 &&& 255).toUInt32 % 65536).toInt32 = Int32.ofNat ((zxt k).getD i 0) ∧ narrow .char (.int (Int32.ofNat ((zxt k).getD i 0))) = .int (Int32.ofNat ((zxt k).getD i 0)) := by decide +kernel
theorem tx_all1 : ∀ k, k < 26 → (zxt k).length = tx_len.getD k 0 ∧ ∀ i, i < tx_len.getD k 0 → (tx_byt.getD k []).getD i 0 = Int32.ofNat ((zxt k).getD i 0) ∧ (zxt k).getD i 0 < 128 := by decide +kernel
/-- where a byte is first -/
def tx_ix (k : Nat) (x : Int32) : Int32 := if (zxt k).any (fun b => x == Int32.ofNat b) then Int32.ofNat ((zxt k).findIdx (fun b => x == Int32.ofNat b)) else -1
theorem tx_ix_at {k i n : Nat} (hk : k < 26) (hi : i < tx_len.getD k 0) (hb : n = (zxt k).getD i 0) (hno : ∀ j, j < i → ¬ n = (zxt k).getD j 0) : tx_ix k (nI n) = nI i := by
  obtain ⟨hl, ha⟩ := tx_all1 k hk
  have hn : n < 128 := by rw [hb]; exact (ha i hi).2
  have key : ∀ j (hj : j < (zxt k).length), ((nI n) == Int32.ofNat (zxt k)[j]) = decide (n = (zxt k).getD j 0) := by
    intro j hj
    have e : (zxt k).getD j 0 = (zxt k)[j] := by rw [List.getD_eq_getElem?_getD, List.getElem?_eq_getElem hj]; rfl
    have h2 := (ha j (by omega)).2
    rw [e] at h2
    rw [e]
    by_cases q : n = (zxt k)[j]
    · rw [decide_eq_true q, q]; exact beq_self_eq_true _
    · rw [decide_eq_false q]
      apply beq_false_of_ne
      intro q2
      exact q ((nI_eq (by omega) (by omega)).mp q2)
  have hi2 : i < (zxt k).length := by omega
  have hf : (zxt k).findIdx (fun b => nI n == Int32.ofNat b) = i := by
    rw [List.findIdx_eq hi2]
    refine ⟨by rw [key i hi2]; exact decide_eq_true hb, fun j hj => by rw [key j (by omega)]; exact decide_eq_false (hno j hj)⟩
  have hany : (zxt k).any (fun b => nI n == Int32.ofNat b) = true := by
    rw [List.any_eq_true]
    exact ⟨(zxt k)[i], List.getElem_mem hi2, by rw [key i hi2]; exact decide_eq_true hb⟩
  unfold tx_ix
  rw [hany, hf]
  rfl
theorem tx_ix_no {k : Nat} {x : Int32} (hk : k < 26) (hno : ∀ j, j < tx_len.getD k 0 → ¬ x = nI ((zxt k).getD j 0)) : tx_ix k x = -1 := by
  obtain ⟨hl, ha⟩ := tx_all1 k hk
  have hany : (zxt k).any (fun b => x == Int32.ofNat b) = false := by
    rw [List.any_eq_false]
    intro b hb
    obtain ⟨j, hj, rfl⟩ := List.mem_iff_getElem.mp hb
    have e : (zxt k).getD j 0 = (zxt k)[j] := by rw [List.getD_eq_getElem?_getD, List.getElem?_eq_getElem hj]; rfl
    have := hno j (by omega)
    rw [e] at this
    simpa [nI] using this
  unfold tx_ix
  rw [hany]
  rfl
theorem tx_b8 : ∀ n, n < 256 → ∀ b, b < 128 → ((Int32.ofNat b = (Int32.ofNat n).toInt8.toInt32) ↔ n = b) := by decide +kernel
theorem tx_pos : ∀ k, k < 26 → 0 < tx_len.getD k 0 := by decide +kernel
theorem tx_coder {l : Launch} {D : va_G} {N : Nat} {sa : Nat → Nat} {ck : Nat → ClassId} {vF : Value} {d : Nat} {k : Nat} (hk : k < 26) {Q : pQ} (hq : Q (.inl (some (.int 0))) S0) : pm_Met l D N sa ck (GS N sa vF) TW YS cost (d + 1) 300 [.retAddr k] S0 Q := by
  refine tx_body yh_300 yp_300 yc_300 (zle rfl) ?_
  intro p e s m below meth c B
  have hTW : pm_TW TW (pm_ws YS TW 300) := TW_ok TW _
  have hG : GS N sa vF s := B.2.2.2.2.2.2.2.2.2.2.2
  obtain ⟨-, hco, -, -⟩ := hG.1.1 k hk
  refine u_gets (v := .int 1) B dd_300_0 hG.2.1 (List.mem_cons_of_mem _ (inT_ok (pos := 3233) (by decide +kernel))) rfl ?_
  refine u_if (tg := 13) B dd_300_3 (by decide) ⟨fun h => absurd h (by decide), fun _ => ?_⟩
  refine u_aload_n B dd_300_6 rfl rfl ?_
  refine u_get (v := .int 0) B dd_300_7 hco (List.mem_cons_of_mem _ (inT_ok (pos := 9094) (by decide +kernel))) rfl ?_
  refine u_goto (tg := 14) B dd_300_10 (by decide) ?_
  exact u_ret B dd_300_14 rfl (by decide +kernel) hq
theorem tx_isLatin1 {l : Launch} {D : va_G} {N : Nat} {sa : Nat → Nat} {ck : Nat → ClassId} {vF : Value} {d : Nat} {k : Nat} (hk : k < 26) {Q : pQ} (hq : Q (.inl (some (.int 1))) S0) : pm_Met l D N sa ck (GS N sa vF) TW YS cost (d + 1) 301 [.retAddr k] S0 Q := by
  refine tx_body yh_301 yp_301 yc_301 (zle rfl) ?_
  intro p e s m below meth c B
  have hTW : pm_TW TW (pm_ws YS TW 301) := TW_ok TW _
  have hG : GS N sa vF s := B.2.2.2.2.2.2.2.2.2.2.2
  obtain ⟨-, hco, -, -⟩ := hG.1.1 k hk
  refine u_gets (v := .int 1) B dd_301_0 hG.2.1 (List.mem_cons_of_mem _ (inT_ok (pos := 3233) (by decide +kernel))) rfl ?_
  refine u_if (tg := 17) B dd_301_3 (by decide) ⟨fun h => absurd h (by decide), fun _ => ?_⟩
  refine u_aload_n B dd_301_6 rfl rfl ?_
  refine u_get (v := .int 0) B dd_301_7 hco (List.mem_cons_of_mem _ (inT_ok (pos := 9094) (by decide +kernel))) rfl ?_
  refine u_if (tg := 17) B dd_301_10 (by decide) ⟨fun h => absurd rfl h, fun _ => ?_⟩
  refine u_iconst B dd_301_13 zki_1 ?_
  refine u_goto (tg := 18) B dd_301_14 (by decide) ?_
  exact u_ret B dd_301_18 rfl (by decide +kernel) hq
theorem tx_length {l : Launch} {D : va_G} {N : Nat} {sa : Nat → Nat} {ck : Nat → ClassId} {vF : Value} {d : Nat} {k : Nat} (hk : k < 26) {Q : pQ} (hq : Q (.inl (some (.int (Int32.ofNat (tx_len.getD k 0))))) S0) : pm_Met l D N sa ck (GS N sa vF) TW YS cost (d + 1 + 1) 269 [.retAddr k] S0 Q := by
  refine tx_body yh_269 yp_269 yc_269 (zle rfl) ?_
  intro p e s m below meth c B
  have hTW : pm_TW TW (pm_ws YS TW 269) := TW_ok TW _
  have hG : GS N sa vF s := B.2.2.2.2.2.2.2.2.2.2.2
  obtain ⟨-, -, hva, hT⟩ := hG.1.1 k hk
  refine u_aload_n B dd_269_0 rfl rfl ?_
  refine u_get (v := .retAddr (2000 + k)) B dd_269_1 hva (List.mem_cons_of_mem _ (inT_ok (pos := 9095) (by decide +kernel))) rfl ?_
  refine u_len B dd_269_4 hT ?_
  refine u_aload_n B dd_269_5 rfl rfl ?_
  refine u_text (as := []) (v := some (.int 0)) B hTW dd_269_6 yk_300 yh_300 (inT_ok (pos := 3239) (by decide +kernel)) (inT_ok (pos := 4000) (by decide +kernel)) (inT_ok (pos := 4001) (by decide +kernel)) rfl hk rfl rfl (zle rfl) yc_300 (fun Q hq => tx_coder hk hq) ?_
  refine u_ishr B dd_269_9 ?_
  rw [tx_shr0 hk]
  exact u_ret B dd_269_10 rfl rfl hq
theorem tx_canEncode {l : Launch} {D : va_G} {N : Nat} {sa : Nat → Nat} {ck : Nat → ClassId} {vF : Value} {d : Nat} {x : Int32}  {Q : pQ} (hq : Q (.inl (some (.int (if x < 0 ∨ 255 < x then 0 else 1)))) S0) : pm_Met l D N sa ck (GS N sa vF) TW YS cost (d + 1) 304 [.int x] S0 Q := by
  refine tx_body yh_304 yp_304 yc_304 (zle rfl) ?_
  intro p e s m below meth c B
  have hTW : pm_TW TW (pm_ws YS TW 304) := TW_ok TW _
  have hG : GS N sa vF s := B.2.2.2.2.2.2.2.2.2.2.2
  refine u_iload_n B dd_304_0 rfl ?_
  refine u_if (tg := 15) B dd_304_1 (by decide) ⟨fun h => ?_, fun h => ?_⟩
  · refine u_iconst B dd_304_15 zki_0 ?_
    rw [if_pos (Or.inl h)] at hq
    exact u_ret B dd_304_16 rfl (by decide +kernel) hq
  · refine u_iload_n B dd_304_4 rfl ?_
    refine u_sipush B dd_304_5 zks_255 ?_
    refine u_icmp (tg := 15) B dd_304_8 (by decide) ⟨fun h2 => ?_, fun h2 => ?_⟩
    · refine u_iconst B dd_304_15 zki_0 ?_
      rw [if_pos (Or.inr h2)] at hq
      exact u_ret B dd_304_16 rfl (by decide +kernel) hq
    · refine u_iconst B dd_304_11 zki_1 ?_
      refine u_goto (tg := 16) B dd_304_12 (by decide) ?_
      rw [if_neg (by rintro (h3 | h3); exact h h3; exact h2 h3)] at hq
      exact u_ret B dd_304_16 rfl (by decide +kernel) hq
theorem tx_pre {l : Launch} {D : va_G} {N : Nat} {sa : Nat → Nat} {ck : Nat → ClassId} {vF : Value} {d : Nat} {x y : Int32} (hF : vF = .null ∨ ∃ t, vF = .retAddr t) (hx : ¬ x < 0) (hy : x < y) {Q : pQ} (hq : Q (.inl (some (.int x))) S0) : pm_Met l D N sa ck (GS N sa vF) TW YS cost (d + 1) 308 [.int x, .int y, vF] S0 Q := by
  refine tx_body yh_308 yp_308 yc_308 (by rcases hF with rfl | ⟨t, rfl⟩ <;> exact zle rfl) ?_
  intro p e s m below meth c B
  have hTW : pm_TW TW (pm_ws YS TW 308) := TW_ok TW _
  have hG : GS N sa vF s := B.2.2.2.2.2.2.2.2.2.2.2
  have hls : pm_ent 3 [Value.int x, Value.int y, vF] = [some (.int x), some (.int y), some vF] := by rcases hF with rfl | ⟨t, rfl⟩ <;> rfl
  show pm_X _ _ _ _ _ _ _ _ _ _ _ _ _ _ _ _ _ _ _ 0 (pm_ent 3 [Value.int x, Value.int y, vF]) [] 0 0 S0
  rw [hls]
  refine u_iload_n B dd_308_0 rfl ?_
  refine u_if (tg := 9) B dd_308_1 (by decide) ⟨fun h => absurd h hx, fun _ => ?_⟩
  refine u_iload_n B dd_308_4 rfl ?_
  refine u_iload_n B dd_308_5 rfl ?_
  refine u_icmp (tg := 16) B dd_308_6 (by decide) ⟨fun _ => ?_, fun h => absurd hy h⟩
  refine u_iload_n B dd_308_16 rfl ?_
  exact u_ret B dd_308_17 rfl rfl hq
theorem tx_checkIndex {l : Launch} {D : va_G} {N : Nat} {sa : Nat → Nat} {ck : Nat → ClassId} {vF : Value} {d : Nat} {x y : Int32} (hF : vF = .null ∨ ∃ t, vF = .retAddr t) (hx : ¬ x < 0) (hy : x < y) {Q : pQ} (hq : Q (.inl none) S0) : pm_Met l D N sa ck (GS N sa vF) TW YS cost (d + 1 + 1) 307 [.int x, .int y] S0 Q := by
  refine tx_body yh_307 yp_307 yc_307 (zle rfl) ?_
  intro p e s m below meth c B
  have hTW : pm_TW TW (pm_ws YS TW 307) := TW_ok TW _
  have hG : GS N sa vF s := B.2.2.2.2.2.2.2.2.2.2.2
  refine u_iload_n B dd_307_0 rfl ?_
  refine u_iload_n B dd_307_1 rfl ?_
  refine u_gets (v := vF) B dd_307_2 hG.2.2 (List.mem_cons_of_mem _ (inT_ok (pos := 4032) (by decide +kernel))) rfl ?_
  refine u_static (as := [.int x, .int y, vF]) (r := []) (v := some (.int x)) B hTW dd_307_5 yk_308 yh_308 (inT_ok (pos := 4079) (by decide +kernel)) (inT_ok (pos := 4080) (by decide +kernel)) rfl rfl (zle rfl) yc_308 (fun Q hq => tx_pre hF hx hy hq) ?_
  refine u_pop B dd_307_8 ?_
  exact u_void B dd_307_9 rfl hq
theorem tx_L1charAt {l : Launch} {D : va_G} {N : Nat} {sa : Nat → Nat} {ck : Nat → ClassId} {vF : Value} {d : Nat} {k i : Nat} (hF : vF = .null ∨ ∃ t, vF = .retAddr t) (hk : k < 26) (hi : i < tx_len.getD k 0) {Q : pQ} (hq : Q (.inl (some (.int (Int32.ofNat ((zxt k).getD i 0))))) S0) : pm_Met l D N sa ck (GS N sa vF) TW YS cost (d + 1 + 1 + 1) 306 [.retAddr (2000 + k), .int (nI i)] S0 Q := by
  refine tx_body yh_306 yp_306 yc_306 (zle rfl) ?_
  intro p e s m below meth c B
  have hTW : pm_TW TW (pm_ws YS TW 306) := TW_ok TW _
  have hG : GS N sa vF s := B.2.2.2.2.2.2.2.2.2.2.2
  obtain ⟨-, -, -, hT⟩ := hG.1.1 k hk
  have hl := tx_short k hk
  refine u_iload_n B dd_306_0 rfl ?_
  refine u_aload_n B dd_306_1 rfl rfl ?_
  refine u_len B dd_306_2 hT ?_
  refine u_static (as := [.int (nI i), .int (Int32.ofNat (tx_len.getD k 0))]) (r := []) (v := none) B hTW dd_306_3 yk_307 yh_307 (inT_ok (pos := 4076) (by decide +kernel)) (inT_ok (pos := 4077) (by decide +kernel)) rfl rfl (zle rfl) yc_307 (fun Q hq => tx_checkIndex hF (nI_pos (by omega)) (nI_lt hi hl) hq) ?_
  refine u_aload_n B dd_306_6 rfl rfl ?_
  refine u_iload_n B dd_306_7 rfl ?_
  refine u_bal (x := (tx_byt.getD k []).getD i 0) B dd_306_8 hT (vp_in_nI hi hl) (by rw [nI_clamp (by omega)]) ?_
  refine u_sipush B dd_306_9 zks_255 ?_
  refine u_iand B dd_306_12 ?_
  refine u_i2c B dd_306_13 ?_
  obtain ⟨e1, e2⟩ := tx_chr k hk i hi
  rw [e1]
  exact u_ret B dd_306_14 rfl e2 hq
theorem tx_charAt {l : Launch} {D : va_G} {N : Nat} {sa : Nat → Nat} {ck : Nat → ClassId} {vF : Value} {d : Nat} {k i : Nat} (hF : vF = .null ∨ ∃ t, vF = .retAddr t) (hk : k < 26) (hi : i < tx_len.getD k 0) {Q : pQ} (hq : Q (.inl (some (.int (Int32.ofNat ((zxt k).getD i 0))))) S0) : pm_Met l D N sa ck (GS N sa vF) TW YS cost (d + 1 + 1 + 1 + 1) 270 [.retAddr k, .int (nI i)] S0 Q := by
  refine tx_body yh_270 yp_270 yc_270 (zle rfl) ?_
  intro p e s m below meth c B
  have hTW : pm_TW TW (pm_ws YS TW 270) := TW_ok TW _
  have hG : GS N sa vF s := B.2.2.2.2.2.2.2.2.2.2.2
  obtain ⟨-, -, hva, hT⟩ := hG.1.1 k hk
  refine u_aload_n B dd_270_0 rfl rfl ?_
  refine u_text (as := []) (r := []) (v := some (.int 1)) B hTW dd_270_1 yk_301 yh_301 (inT_ok (pos := 3229) (by decide +kernel)) (inT_ok (pos := 3230) (by decide +kernel)) (inT_ok (pos := 3231) (by decide +kernel)) rfl hk rfl rfl (zle rfl) yc_301 (fun Q hq => tx_isLatin1 hk hq) ?_
  refine u_if (tg := 16) B dd_270_4 (by decide) ⟨fun h => absurd h (by decide), fun _ => ?_⟩
  refine u_aload_n B dd_270_7 rfl rfl ?_
  refine u_get (v := .retAddr (2000 + k)) B dd_270_8 hva (List.mem_cons_of_mem _ (inT_ok (pos := 9095) (by decide +kernel))) rfl ?_
  refine u_iload_n B dd_270_11 rfl ?_
  refine u_static (as := [.retAddr (2000 + k), .int (nI i)]) (r := []) (v := some (.int (Int32.ofNat ((zxt k).getD i 0)))) B hTW dd_270_12 yk_306 yh_306 (inT_ok (pos := 4073) (by decide +kernel)) (inT_ok (pos := 4074) (by decide +kernel)) rfl rfl (zle rfl) yc_306 (fun Q hq => tx_L1charAt hF hk hi hq) ?_
  exact u_ret B dd_270_15 rfl (tx_chr k hk i hi).2 hq
theorem tx_indexOfChar {l : Launch} {D : va_G} {N : Nat} {sa : Nat → Nat} {ck : Nat → ClassId} {vF : Value} {d : Nat} {k n : Nat} (hk : k < 26) (hn : n < 256) {Q : pQ} (hq : Q (.inl (some (.int (tx_ix k (nI n))))) S0) : pm_Met l D N sa ck (GS N sa vF) TW YS cost (d + 1) 305 [.retAddr (2000 + k), .int (nI n), .int (nI 0), .int (nI (tx_len.getD k 0))] S0 Q := by
  refine tx_body yh_305 yp_305 yc_305 (zle rfl) ?_
  intro p e s m below meth c B
  have hTW : pm_TW TW (pm_ws YS TW 305) := TW_ok TW _
  have hG : GS N sa vF s := B.2.2.2.2.2.2.2.2.2.2.2
  obtain ⟨-, -, -, hT⟩ := hG.1.1 k hk
  have hl := tx_short k hk
  obtain ⟨hl1, ha⟩ := tx_all1 k hk
  refine u_iload_n B dd_305_0 rfl ?_
  refine u_i2b B dd_305_1 rfl ?_
  refine u_istore (ls1 := [some (.retAddr (2000 + k)), some (.int (nI n)), some (.int (nI 0)), some (.int (nI (tx_len.getD k 0))), some (.int (nI n).toInt8.toInt32), none]) B dd_305_2 (zlt rfl) rfl ?_
  refine u_iload_n B dd_305_4 rfl ?_
  refine u_istore (ls1 := [some (.retAddr (2000 + k)), some (.int (nI n)), some (.int (nI 0)), some (.int (nI (tx_len.getD k 0))), some (.int (nI n).toInt8.toInt32), some (.int (nI 0))]) B dd_305_5 (zlt rfl) rfl ?_
  have key : ∀ m0 i : Nat, i + m0 = tx_len.getD k 0 → (∀ j, j < i → ¬ n = (zxt k).getD j 0) → pm_X p l e (pm_R (d + 1) 0 0) s m ([Value.retAddr (2000 + k), Value.int (nI n), Value.int (nI 0), Value.int (nI (tx_len.getD k 0))].map (pm_v N sa)).toArray below meth c D N sa ck (YS 305).2.2.1 0 0 false Q 7 [some (.retAddr (2000 + k)), some (.int (nI n)), some (.int (nI 0)), some (.int (nI (tx_len.getD k 0))), some (.int (nI n).toInt8.toInt32), some (.int (nI i))] [] 0 0 S0 := by
    intro m0
    induction m0 with
    | zero =>
      intro i hi hno
      refine u_iload B dd_305_7 rfl ?_
      refine u_iload_n B dd_305_9 rfl ?_
      refine u_icmp (tg := 31) B dd_305_10 (by decide) ⟨fun _ => ?_, fun h => absurd (nI_le (by omega) (by omega)) h⟩
      refine u_iconst (v := -1) B dd_305_31 (by decide +kernel) ?_
      rw [tx_ix_no hk (fun j hj q => hno j (by omega) ((nI_eq (by omega) (by have := (ha j hj).2; omega)).mp q))] at hq
      exact u_ret B dd_305_32 rfl rfl hq
    | succ m0 ih =>
      intro i hi hno
      refine u_iload B dd_305_7 rfl ?_
      refine u_iload_n B dd_305_9 rfl ?_
      refine u_icmp (tg := 31) B dd_305_10 (by decide) ⟨fun h => absurd h (nI_ge (by omega) (by omega)), fun _ => ?_⟩
      refine u_aload_n B dd_305_13 rfl rfl ?_
      refine u_iload B dd_305_14 rfl ?_
      refine u_bal (x := Int32.ofNat ((zxt k).getD i 0)) B dd_305_16 hT (vp_in_nI (by omega) hl) (by rw [nI_clamp (by omega), (ha i (by omega)).1]) ?_
      refine u_iload B dd_305_17 rfl ?_
      refine u_icmp (tg := 25) B dd_305_19 (by decide) ⟨fun h => ?_, fun h => ?_⟩
      · refine u_iinc (ls1 := [some (.retAddr (2000 + k)), some (.int (nI n)), some (.int (nI 0)), some (.int (nI (tx_len.getD k 0))), some (.int (nI n).toInt8.toInt32), some (.int (nI (i + 1)))]) B dd_305_25 rfl (zlt rfl) (by rw [show Int32.ofInt 1 = nI 1 by decide +kernel, nI_add]; rfl) ?_
        refine u_goto (tg := 7) B dd_305_28 (by decide) ?_
        refine ih (i + 1) (by omega) (fun j hj => ?_)
        by_cases q : j = i
        · subst q
          exact fun q => h ((tx_b8 n hn _ (ha j (by omega)).2).mpr q)
        · exact hno j (by omega)
      · refine u_iload B dd_305_22 rfl ?_
        rw [tx_ix_at hk (by omega) ((tx_b8 n hn _ (ha i (by omega)).2).mp h) hno] at hq
        exact u_ret B dd_305_24 rfl rfl hq
  exact key (tx_len.getD k 0) 0 (by omega) (fun j hj => absurd hj (Nat.not_lt_zero j))
theorem tx_L1indexOf {l : Launch} {D : va_G} {N : Nat} {sa : Nat → Nat} {ck : Nat → ClassId} {vF : Value} {d : Nat} {k : Nat} {x : Int32} (hk : k < 26) {Q : pQ} (hq : Q (.inl (some (.int (tx_ix k x)))) S0) : pm_Met l D N sa ck (GS N sa vF) TW YS cost (d + 1 + 1) 303 [.retAddr (2000 + k), .int x, .int (nI 0), .int (nI (tx_len.getD k 0))] S0 Q := by
  refine tx_body yh_303 yp_303 yc_303 (zle rfl) ?_
  intro p e s m below meth c B
  have hTW : pm_TW TW (pm_ws YS TW 303) := TW_ok TW _
  have hG : GS N sa vF s := B.2.2.2.2.2.2.2.2.2.2.2
  obtain ⟨-, -, -, hT⟩ := hG.1.1 k hk
  have hl := tx_short k hk
  have hl0 := tx_pos k hk
  obtain ⟨hl1, ha⟩ := tx_all1 k hk
  refine u_iload_n B dd_303_0 rfl ?_
  refine u_static (as := [.int x]) (r := []) (v := some (.int (if x < 0 ∨ 255 < x then 0 else 1))) B hTW dd_303_1 yk_304 yh_304 (inT_ok (pos := 4006) (by decide +kernel)) (inT_ok (pos := 4007) (by decide +kernel)) rfl rfl (zle rfl) yc_304 (fun Q hq => tx_canEncode hq) ?_
  by_cases hx : x < 0 ∨ 255 < x
  · rw [if_pos hx]
    refine u_if (tg := 9) B dd_303_4 (by decide) ⟨fun h => absurd rfl h, fun _ => ?_⟩
    refine u_iconst (v := -1) B dd_303_7 (by decide +kernel) ?_
    have e : tx_ix k x = -1 := by
      refine tx_ix_no hk (fun j hj q => ?_)
      have h2 := (ha j hj).2
      rw [q] at hx
      rcases hx with hx | hx
      · exact nI_pos (by omega) hx
      · exact nI_nlt (a := 255) (b := (zxt k).getD j 0) (by omega) (by omega) hx
    rw [e] at hq
    exact u_ret B dd_303_8 rfl rfl hq
  · rw [if_neg hx]
    obtain ⟨n, hn0, rfl⟩ := nI_of (x := x) (fun q => hx (Or.inl q))
    have hn : n < 256 := by
      rcases Nat.lt_or_ge n 256 with q | q
      · exact q
      · exact absurd (Or.inr (nI_lt (a := 255) (b := n) (by omega) hn0)) hx
    refine u_if (tg := 9) B dd_303_4 (by decide) ⟨fun _ => ?_, fun h => absurd h (by decide)⟩
    refine u_iload_n B dd_303_9 rfl ?_
    refine u_iconst (v := 0) B dd_303_10 zki_0 ?_
    refine u_max B hTW dd_303_11 (inT_ok (pos := 4009) (by decide +kernel)) (inT_ok (pos := 3040) (by decide +kernel)) (inT_ok (pos := 1022) (by decide +kernel)) (inT_ok (pos := 3041) (by decide +kernel)) (by omega) (zle rfl) ?_
    rw [show (if nI 0 < 0 then (0 : Int32) else nI 0) = nI 0 by decide]
    refine u_istore_n (ls1 := [some (.retAddr (2000 + k)), some (.int (nI n)), some (.int (nI 0)), some (.int (nI (tx_len.getD k 0)))]) B dd_303_14 (zlt rfl) rfl ?_
    refine u_iload_n B dd_303_15 rfl ?_
    refine u_aload_n B dd_303_16 rfl rfl ?_
    refine u_len B dd_303_17 hT ?_
    refine u_min B hTW dd_303_18 (inT_ok (pos := 4010) (by decide +kernel)) (inT_ok (pos := 2232) (by decide +kernel)) (inT_ok (pos := 1022) (by decide +kernel)) (inT_ok (pos := 2233) (by decide +kernel)) (by omega) (zle rfl) ?_
    rw [show (if Int32.ofNat (tx_len.getD k 0) < nI (tx_len.getD k 0) then Int32.ofNat (tx_len.getD k 0) else nI (tx_len.getD k 0)) = nI (tx_len.getD k 0) from ite_self _]
    refine u_istore_n (ls1 := [some (.retAddr (2000 + k)), some (.int (nI n)), some (.int (nI 0)), some (.int (nI (tx_len.getD k 0)))]) B dd_303_21 (zlt rfl) rfl ?_
    refine u_iload_n B dd_303_22 rfl ?_
    refine u_iload_n B dd_303_23 rfl ?_
    refine u_icmp (tg := 29) B dd_303_24 (by decide) ⟨fun _ => ?_, fun h => absurd (nI_lt hl0 hl) h⟩
    refine u_aload_n B dd_303_29 rfl rfl ?_
    refine u_iload_n B dd_303_30 rfl ?_
    refine u_iload_n B dd_303_31 rfl ?_
    refine u_iload_n B dd_303_32 rfl ?_
    refine u_static (as := [.retAddr (2000 + k), .int (nI n), .int (nI 0), .int (nI (tx_len.getD k 0))]) (r := []) (v := some (.int (tx_ix k (nI n)))) B hTW dd_303_33 yk_305 yh_305 (inT_ok (pos := 4011) (by decide +kernel)) (inT_ok (pos := 4012) (by decide +kernel)) rfl rfl (zle rfl) yc_305 (fun Q hq => tx_indexOfChar hk hn hq) ?_
    exact u_ret B dd_303_36 rfl rfl hq
theorem tx_indexOf2 {l : Launch} {D : va_G} {N : Nat} {sa : Nat → Nat} {ck : Nat → ClassId} {vF : Value} {d : Nat} {k : Nat} {x : Int32} (hk : k < 26) {Q : pQ} (hq : Q (.inl (some (.int (tx_ix k x)))) S0) : pm_Met l D N sa ck (GS N sa vF) TW YS cost (d + 1 + 1 + 1) 302 [.retAddr k, .int x, .int (nI 0)] S0 Q := by
  refine tx_body yh_302 yp_302 yc_302 (zle rfl) ?_
  intro p e s m below meth c B
  have hTW : pm_TW TW (pm_ws YS TW 302) := TW_ok TW _
  have hG : GS N sa vF s := B.2.2.2.2.2.2.2.2.2.2.2
  obtain ⟨-, -, hva, hT⟩ := hG.1.1 k hk
  refine u_aload_n B dd_302_0 rfl rfl ?_
  refine u_text (as := []) (r := []) (v := some (.int 1)) B hTW dd_302_1 yk_301 yh_301 (inT_ok (pos := 3229) (by decide +kernel)) (inT_ok (pos := 3230) (by decide +kernel)) (inT_ok (pos := 3231) (by decide +kernel)) rfl hk rfl rfl (zle rfl) yc_301 (fun Q hq => tx_isLatin1 hk hq) ?_
  refine u_if (tg := 23) B dd_302_4 (by decide) ⟨fun h => absurd h (by decide), fun _ => ?_⟩
  refine u_aload_n B dd_302_7 rfl rfl ?_
  refine u_get (v := .retAddr (2000 + k)) B dd_302_8 hva (List.mem_cons_of_mem _ (inT_ok (pos := 9095) (by decide +kernel))) rfl ?_
  refine u_iload_n B dd_302_11 rfl ?_
  refine u_iload_n B dd_302_12 rfl ?_
  refine u_aload_n B dd_302_13 rfl rfl ?_
  refine u_text (as := []) (r := [.int (nI 0), .int x, .retAddr (2000 + k)]) (v := some (.int (Int32.ofNat (tx_len.getD k 0)))) B hTW dd_302_14 yk_269 yh_269 (inT_ok (pos := 3235) (by decide +kernel)) (inT_ok (pos := 3236) (by decide +kernel)) (inT_ok (pos := 3237) (by decide +kernel)) rfl hk rfl rfl (zle rfl) yc_269 (fun Q hq => tx_length hk hq) ?_
  refine u_static (as := [.retAddr (2000 + k), .int x, .int (nI 0), .int (nI (tx_len.getD k 0))]) (r := []) (v := some (.int (tx_ix k x))) B hTW dd_302_17 yk_303 yh_303 (inT_ok (pos := 4003) (by decide +kernel)) (inT_ok (pos := 4004) (by decide +kernel)) rfl rfl (zle rfl) yc_303 (fun Q hq => tx_L1indexOf hk hq) ?_
  refine u_goto (tg := 36) B dd_302_20 (by decide) ?_
  exact u_ret B dd_302_36 rfl rfl hq
theorem tx_indexOf {l : Launch} {D : va_G} {N : Nat} {sa : Nat → Nat} {ck : Nat → ClassId} {vF : Value} {d : Nat} {k : Nat} {x : Int32} (hk : k < 26) {Q : pQ} (hq : Q (.inl (some (.int (tx_ix k x)))) S0) : pm_Met l D N sa ck (GS N sa vF) TW YS cost (d + 1 + 1 + 1 + 1) 271 [.retAddr k, .int x] S0 Q := by
  refine tx_body yh_271 yp_271 yc_271 (zle rfl) ?_
  intro p e s m below meth c B
  have hTW : pm_TW TW (pm_ws YS TW 271) := TW_ok TW _
  have hG : GS N sa vF s := B.2.2.2.2.2.2.2.2.2.2.2
  refine u_aload_n B dd_271_0 rfl rfl ?_
  refine u_iload_n B dd_271_1 rfl ?_
  refine u_iconst (v := nI 0) B dd_271_2 (by decide +kernel) ?_
  refine u_text (as := [.int x, .int (nI 0)]) (r := []) (v := some (.int (tx_ix k x))) B hTW dd_271_3 yk_302 yh_302 (inT_ok (pos := 3225) (by decide +kernel)) (inT_ok (pos := 3226) (by decide +kernel)) (inT_ok (pos := 3227) (by decide +kernel)) rfl hk rfl rfl (zle rfl) yc_302 (fun Q hq => tx_indexOf2 hk hq) ?_
  exact u_ret B dd_271_6 rfl rfl hq
