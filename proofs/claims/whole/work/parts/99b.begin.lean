/-! THE LAW FROM ITS FIRST INSTRUCTION -/
def I0 : pI := fun a => cond (Nat.beq a 0) (fun k => cond (Nat.beq k 2) (-1) 0) (cond (Nat.beq a 7) (fun k => cond (Nat.beq k 0) 5 (cond (Nat.beq k 1) 4 (cond (Nat.beq k 12) 3 0))) (cond (Nat.beq a 75) (fun k => cond (Nat.beq k 1) 5 (cond (Nat.beq k 2) 4 (cond (Nat.beq k 6) 3 (cond (Nat.beq k 7) (-1) (cond (Nat.beq k 8) (-1) (cond (Nat.beq k 17) (-1) (cond (Nat.beq k 53) (-1) 0))))))) (fun _ => 0)))
def J0 : pJ := fun _ _ => 0
def df0 : Nat → pE := (pm_st 108 (shp 7 19) I0 J0).2
def P0 : Pl := (5, 4, 0, (fun _ => 0), (fun _ => 0), 0, (fun _ => 0), 3, 0, (fun _ => 0), 0, (fun _ => 0))
theorem i0_pl : plOk P0 := ⟨by decide, by decide, by decide, by decide, by decide, by decide, fun f h => absurd h (Nat.not_lt_zero f), ⟨by decide, fun h => absurd h (by decide), fun k h => absurd h (Nat.not_lt_zero k)⟩, ⟨by decide, fun h => absurd h (by decide), fun k h => absurd h (Nat.not_lt_zero k)⟩⟩
theorem i0_now : NowR P0 0 0 0 (I0 32) (I0 33) (I0 34) (I0 35) (I0 91) := by
  refine ⟨⟨rfl, fun f h => absurd h (Nat.not_lt_zero f), fun f h => absurd h (Nat.not_lt_zero f), fun f h => absurd h (Nat.not_lt_zero f), fun f h => absurd h (Nat.not_lt_zero f), fun c _ => ?_⟩, rfl, by decide, by decide, by decide, fun f h => absurd h (Nat.not_lt_zero f), fun f h => absurd h (Nat.not_lt_zero f), fun f h => absurd h (Nat.not_lt_zero f), fun f h => absurd h (Nat.not_lt_zero f)⟩
  rw [Nat.zero_testBit]
  rfl
theorem i0_inv : Inv 7 19 I0 J0 := by
  exact ⟨Or.inl ⟨rfl, rfl⟩, P0, 0, 0, 0, 0, 0, 0, 0, 0, i0_pl, ⟨fun i h => absurd h (Nat.not_lt_zero i), fun i h => absurd h (Nat.not_lt_zero i), fun i h => absurd h (Nat.not_lt_zero i), Or.inl ⟨rfl, rfl⟩, Or.inl ⟨rfl, rfl⟩⟩, i0_now, ⟨by decide, by decide, fun i h => absurd h (Nat.not_lt_zero i)⟩, fun _ _ => rfl, ⟨by decide, fun i h => absurd h (Nat.not_lt_zero i)⟩, ⟨by decide, fun i h => absurd h (Nat.not_lt_zero i)⟩, ⟨rfl, Or.inl rfl⟩, ⟨by decide, fun i h => absurd h (Nat.not_lt_zero i)⟩, rfl, rfl, rfl, rfl, rfl, rfl, rfl, rfl, rfl, rfl, rfl, rfl, rfl, rfl, rfl, rfl, rfl, rfl, rfl, rfl, rfl, rfl, rfl, rfl, rfl, rfl, rfl, rfl, rfl, rfl, rfl, rfl⟩
def lfin : List pE := (blk_X11_init 0 ++ blk_X12_init 75) ++ [zK 1 1]
theorem lfc_0 : lfin[0]? = some (df0 0) := rfl
theorem lfc_1 : lfin[1]? = some (df0 1) := rfl
theorem lfc_2 : lfin[2]? = some (df0 2) := rfl
theorem lfc_3 : lfin[3]? = some (df0 3) := rfl
theorem lfc_4 : lfin[4]? = some (df0 4) := rfl
theorem lfc_5 : lfin[5]? = some (df0 5) := rfl
theorem lfc_6 : lfin[6]? = some (df0 6) := rfl
theorem lfc_7 : lfin[7]? = some (df0 7) := rfl
theorem lfc_8 : lfin[8]? = some (df0 8) := rfl
theorem lfc_9 : lfin[9]? = some (df0 9) := rfl
theorem lfc_10 : lfin[10]? = some (df0 10) := rfl
theorem lfc_11 : lfin[11]? = some (df0 11) := rfl
theorem lfc_12 : lfin[12]? = some (df0 12) := rfl
theorem lfc_13 : lfin[13]? = some (df0 13) := rfl
theorem lfc_14 : lfin[14]? = some (df0 14) := rfl
theorem lfc_15 : lfin[15]? = some (df0 15) := rfl
theorem lfc_16 : lfin[16]? = some (df0 16) := rfl
theorem lfc_17 : lfin[17]? = some (df0 17) := rfl
theorem lfc_18 : lfin[18]? = some (df0 18) := rfl
theorem lfc_19 : lfin[19]? = some (df0 19) := rfl
theorem lfc_20 : lfin[20]? = some (df0 20) := rfl
theorem lfc_21 : lfin[21]? = some (df0 21) := rfl
theorem lfc_22 : lfin[22]? = some (df0 22) := rfl
theorem lfc_23 : lfin[23]? = some (df0 23) := rfl
theorem lfc_24 : lfin[24]? = some (df0 24) := rfl
theorem lfc_25 : lfin[25]? = some (df0 25) := rfl
theorem lfc_26 : lfin[26]? = some (df0 26) := rfl
theorem lfc_27 : lfin[27]? = some (df0 27) := rfl
theorem lfc_28 : lfin[28]? = some (df0 28) := rfl
theorem lfc_29 : lfin[29]? = some (df0 29) := rfl
theorem lfc_30 : lfin[30]? = some (df0 30) := rfl
theorem lfc_31 : lfin[31]? = some (df0 31) := rfl
theorem lfc_32 : lfin[32]? = some (df0 32) := rfl
theorem lfc_33 : lfin[33]? = some (df0 33) := rfl
theorem lfc_34 : lfin[34]? = some (df0 34) := rfl
theorem lfc_35 : lfin[35]? = some (df0 35) := rfl
theorem lfc_36 : lfin[36]? = some (df0 36) := rfl
theorem lfc_37 : lfin[37]? = some (df0 37) := rfl
theorem lfc_38 : lfin[38]? = some (df0 38) := rfl
theorem lfc_39 : lfin[39]? = some (df0 39) := rfl
theorem lfc_40 : lfin[40]? = some (df0 40) := rfl
theorem lfc_41 : lfin[41]? = some (df0 41) := rfl
theorem lfc_42 : lfin[42]? = some (df0 42) := rfl
theorem lfc_43 : lfin[43]? = some (df0 43) := rfl
theorem lfc_44 : lfin[44]? = some (df0 44) := rfl
theorem lfc_45 : lfin[45]? = some (df0 45) := rfl
theorem lfc_46 : lfin[46]? = some (df0 46) := rfl
theorem lfc_47 : lfin[47]? = some (df0 47) := rfl
theorem lfc_48 : lfin[48]? = some (df0 48) := rfl
theorem lfc_49 : lfin[49]? = some (df0 49) := rfl
theorem lfc_50 : lfin[50]? = some (df0 50) := rfl
theorem lfc_51 : lfin[51]? = some (df0 51) := rfl
theorem lfc_52 : lfin[52]? = some (df0 52) := rfl
theorem lfc_53 : lfin[53]? = some (df0 53) := rfl
theorem lfc_54 : lfin[54]? = some (df0 54) := rfl
theorem lfc_55 : lfin[55]? = some (df0 55) := rfl
theorem lfc_56 : lfin[56]? = some (df0 56) := rfl
theorem lfc_57 : lfin[57]? = some (df0 57) := rfl
theorem lfc_58 : lfin[58]? = some (df0 58) := rfl
theorem lfc_59 : lfin[59]? = some (df0 59) := rfl
theorem lfc_60 : lfin[60]? = some (df0 60) := rfl
theorem lfc_61 : lfin[61]? = some (df0 61) := rfl
theorem lfc_62 : lfin[62]? = some (df0 62) := rfl
theorem lfc_63 : lfin[63]? = some (df0 63) := rfl
theorem lfc_64 : lfin[64]? = some (df0 64) := rfl
theorem lfc_65 : lfin[65]? = some (df0 65) := rfl
theorem lfc_66 : lfin[66]? = some (df0 66) := rfl
theorem lfc_67 : lfin[67]? = some (df0 67) := rfl
theorem lfc_68 : lfin[68]? = some (df0 68) := rfl
theorem lfc_69 : lfin[69]? = some (df0 69) := rfl
theorem lfc_70 : lfin[70]? = some (df0 70) := rfl
theorem lfc_71 : lfin[71]? = some (df0 71) := rfl
theorem lfc_72 : lfin[72]? = some (df0 72) := rfl
theorem lfc_73 : lfin[73]? = some (df0 73) := rfl
theorem lfc_74 : lfin[74]? = some (df0 74) := rfl
theorem lfc_75 : lfin[75]? = some (df0 75) := rfl
theorem lfc_76 : lfin[76]? = some (df0 76) := rfl
theorem lfc_77 : lfin[77]? = some (df0 77) := rfl
theorem lfc_78 : lfin[78]? = some (df0 78) := rfl
theorem lfc_79 : lfin[79]? = some (df0 79) := rfl
theorem lfc_80 : lfin[80]? = some (df0 80) := rfl
theorem lfc_81 : lfin[81]? = some (df0 81) := rfl
theorem lfc_82 : lfin[82]? = some (df0 82) := rfl
theorem lfc_83 : lfin[83]? = some (df0 83) := rfl
theorem lfc_84 : lfin[84]? = some (df0 84) := rfl
theorem lfc_85 : lfin[85]? = some (df0 85) := rfl
theorem lfc_86 : lfin[86]? = some (df0 86) := rfl
theorem lfc_87 : lfin[87]? = some (df0 87) := rfl
theorem lfc_88 : lfin[88]? = some (df0 88) := rfl
theorem lfc_89 : lfin[89]? = some (df0 89) := rfl
theorem lfc_90 : lfin[90]? = some (df0 90) := rfl
theorem lfc_91 : lfin[91]? = some (df0 91) := rfl
theorem lfc_92 : lfin[92]? = some (df0 92) := rfl
theorem lfc_93 : lfin[93]? = some (df0 93) := rfl
theorem lfc_94 : lfin[94]? = some (df0 94) := rfl
theorem lfc_95 : lfin[95]? = some (df0 95) := rfl
theorem lfc_96 : lfin[96]? = some (df0 96) := rfl
theorem lfc_97 : lfin[97]? = some (df0 97) := rfl
theorem lfc_98 : lfin[98]? = some (df0 98) := rfl
theorem lfc_99 : lfin[99]? = some (df0 99) := rfl
theorem lfc_100 : lfin[100]? = some (df0 100) := rfl
theorem lfc_101 : lfin[101]? = some (df0 101) := rfl
theorem lfc_102 : lfin[102]? = some (df0 102) := rfl
theorem lfc_103 : lfin[103]? = some (df0 103) := rfl
theorem lfc_104 : lfin[104]? = some (df0 104) := rfl
theorem lfc_105 : lfin[105]? = some (df0 105) := rfl
theorem lfc_106 : lfin[106]? = some (df0 106) := rfl
theorem lfc_107 : lfin[107]? = some (df0 107) := rfl
theorem lfc : ∀ a, a < 108 → lfin[a]? = some (df0 a)
  | 0, _ => lfc_0
  | 1, _ => lfc_1
  | 2, _ => lfc_2
  | 3, _ => lfc_3
  | 4, _ => lfc_4
  | 5, _ => lfc_5
  | 6, _ => lfc_6
  | 7, _ => lfc_7
  | 8, _ => lfc_8
  | 9, _ => lfc_9
  | 10, _ => lfc_10
  | 11, _ => lfc_11
  | 12, _ => lfc_12
  | 13, _ => lfc_13
  | 14, _ => lfc_14
  | 15, _ => lfc_15
  | 16, _ => lfc_16
  | 17, _ => lfc_17
  | 18, _ => lfc_18
  | 19, _ => lfc_19
  | 20, _ => lfc_20
  | 21, _ => lfc_21
  | 22, _ => lfc_22
  | 23, _ => lfc_23
  | 24, _ => lfc_24
  | 25, _ => lfc_25
  | 26, _ => lfc_26
  | 27, _ => lfc_27
  | 28, _ => lfc_28
  | 29, _ => lfc_29
  | 30, _ => lfc_30
  | 31, _ => lfc_31
  | 32, _ => lfc_32
  | 33, _ => lfc_33
  | 34, _ => lfc_34
  | 35, _ => lfc_35
  | 36, _ => lfc_36
  | 37, _ => lfc_37
  | 38, _ => lfc_38
  | 39, _ => lfc_39
  | 40, _ => lfc_40
  | 41, _ => lfc_41
  | 42, _ => lfc_42
  | 43, _ => lfc_43
  | 44, _ => lfc_44
  | 45, _ => lfc_45
  | 46, _ => lfc_46
  | 47, _ => lfc_47
  | 48, _ => lfc_48
  | 49, _ => lfc_49
  | 50, _ => lfc_50
  | 51, _ => lfc_51
  | 52, _ => lfc_52
  | 53, _ => lfc_53
  | 54, _ => lfc_54
  | 55, _ => lfc_55
  | 56, _ => lfc_56
  | 57, _ => lfc_57
  | 58, _ => lfc_58
  | 59, _ => lfc_59
  | 60, _ => lfc_60
  | 61, _ => lfc_61
  | 62, _ => lfc_62
  | 63, _ => lfc_63
  | 64, _ => lfc_64
  | 65, _ => lfc_65
  | 66, _ => lfc_66
  | 67, _ => lfc_67
  | 68, _ => lfc_68
  | 69, _ => lfc_69
  | 70, _ => lfc_70
  | 71, _ => lfc_71
  | 72, _ => lfc_72
  | 73, _ => lfc_73
  | 74, _ => lfc_74
  | 75, _ => lfc_75
  | 76, _ => lfc_76
  | 77, _ => lfc_77
  | 78, _ => lfc_78
  | 79, _ => lfc_79
  | 80, _ => lfc_80
  | 81, _ => lfc_81
  | 82, _ => lfc_82
  | 83, _ => lfc_83
  | 84, _ => lfc_84
  | 85, _ => lfc_85
  | 86, _ => lfc_86
  | 87, _ => lfc_87
  | 88, _ => lfc_88
  | 89, _ => lfc_89
  | 90, _ => lfc_90
  | 91, _ => lfc_91
  | 92, _ => lfc_92
  | 93, _ => lfc_93
  | 94, _ => lfc_94
  | 95, _ => lfc_95
  | 96, _ => lfc_96
  | 97, _ => lfc_97
  | 98, _ => lfc_98
  | 99, _ => lfc_99
  | 100, _ => lfc_100
  | 101, _ => lfc_101
  | 102, _ => lfc_102
  | 103, _ => lfc_103
  | 104, _ => lfc_104
  | 105, _ => lfc_105
  | 106, _ => lfc_106
  | 107, _ => lfc_107
  | n + 108, h => absurd h (by omega)
theorem hN_fin : hN df0 lfin = pm_st 108 (shp 7 19) I0 J0 := by
  refine Prod.ext rfl ?_
  funext a
  show (lfin[a]?).getD (df0 a) = df0 a
  by_cases h : a < 108
  · rw [lfc a h]; rfl
  · have e : lfin.length = 108 := rfl
    rw [List.getElem?_eq_none (by rw [e]; omega)]; rfl
theorem hN_nil {df : Nat → pE} : hN df [] = (0, df) := rfl
theorem law_all {L : Nat} {xs : Nat → Int32} (hL : L ≤ 3072) : pm_ev (C_L_law L xs) 16 (pm_call M cost zext 15) cost (true, true) 0 1141 31924 (fun o _ => o = .inl (some (.int 1))) 0 (pm_ent 7 [.retAddr 1000]) [] 0 0 (0, df0) := by
  show LE L xs 0 [some (.retAddr 1000), none, none, none, none, none, none] [] 0 0 (hN df0 ([] ++ []))
  refine n_new (pc' := 3) (k := 0) (uc' := 1) (us' := 20) (l0 := []) (b := []) (b' := [.inr (11, [.null, .null, .int 0, .null, .null, .null, .null, .null, .int 0, .null, .null, .null, .null, .null, .null, .null, .null, .null, .null, .int 0])]) LEc rfl rfl rfl rfl rfl rfl rfl rfl rfl rfl rfl rfl ?_
  refine g_dup (pc' := 4) LEc rfl rfl rfl ?_
  refine n_ctor (pc' := 7) (k := 1) (uc' := 75) (us' := 9080) (l0 := []) (b' := blk_X11_init 0) LEc rfl rfl (Or.inr rfl) zco_96 rfl rfl rfl rfl rfl rfl rfl rfl rfl (fun Q hq => in_X11_init (l0 := []) rfl rfl rfl (by decide) hq) ?_ ⟨_, rfl⟩
  refine g_astore_n (pc' := 8) (ls1 := [some (.retAddr 1000), some (.ref 0), none, none, none, none, none]) LEc rfl rfl (zlt rfl) rfl rfl ?_
  refine n_new (pc' := 11) (k := 75) (uc' := 76) (us' := 9151) (l0 := []) (b' := blk_X11_init 0 ++ [.inr (12, [.int 0, .int 0, .int 0, .int 0, .int 0, .int 0, .int 0, .int 0, .int 0, .null, .null, .null, .null, .null, .null, .int 0, .int 0, .int 0, .null, .int 0, .int 0, .int 0, .int 0, .int 0, .int 0, .int 0, .long 0, .int 0, .int 0, .int 0, .int 0, .int 0, .int 0, .int 0, .int 0, .int 0, .int 0, .int 0, .int 0, .int 0, .null, .null, .null, .null, .null, .null, .null, .null, .null, .null, .int 0, .null, .null, .int 0, .null, .null, .null, .null, .null, .null, .int 0, .null, .null, .null, .int 0, .int 0, .int 0, .int 0, .null, .null, .null])]) LEc rfl rfl rfl rfl rfl rfl rfl rfl rfl rfl rfl rfl ?_
  refine g_dup (pc' := 12) LEc rfl rfl rfl ?_
  refine n_ctor (pc' := 15) (k := 76) (uc' := 107) (us' := 23677) (l0 := []) (b' := blk_X11_init 0 ++ blk_X12_init 75) LEc rfl rfl (Or.inr rfl) zco_151 rfl rfl rfl rfl rfl rfl rfl rfl rfl (fun Q hq => in_X12_init (l0 := blk_X11_init 0) (a := 75) rfl rfl rfl (by decide) hq) ?_ ⟨_, rfl⟩
  refine g_astore_n (pc' := 16) (ls1 := [some (.retAddr 1000), some (.ref 0), some (.ref 75), none, none, none, none]) LEc rfl rfl (zlt rfl) rfl rfl ?_
  refine g_iconst (v := 1) (pc' := 17) LEc rfl zki_1 rfl ?_
  refine n_arr (pc' := 19) (kd := 1) (n := 1) (k := 107) (uc' := 108) (us' := 23678) (l0 := []) (b' := lfin) LEc rfl rfl (by decide +kernel) rfl rfl rfl rfl rfl rfl rfl rfl rfl ?_
  refine g_astore_n (pc' := 20) (ls1 := [some (.retAddr 1000), some (.ref 0), some (.ref 75), some (.ref 107), none, none, none]) LEc rfl rfl (zlt rfl) rfl rfl ?_
  refine g_iconst (v := 0) (pc' := 21) LEc rfl zki_0 rfl ?_
  refine g_istore (pc' := 23) (ls1 := lsl (nI (6 * 0)) none none) LEc rfl (zlt rfl) rfl rfl ?_
  show LE L xs 23 (lsl (nI (6 * 0)) none none) [] 108 23678 (hN df0 lfin)
  rw [hN_fin]
  exact law_loop hL L 0 (by omega) (by omega) 7 19 I0 J0 108 23678 none none i0_inv (by omega) (by omega)
