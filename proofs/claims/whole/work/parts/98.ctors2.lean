/-! the constructors of the nested classes -/
theorem zfu_0_0 : pm_ft 0 0 = some (.array .int, true) := by decide +kernel
theorem zfu_0_4 : pm_ft 0 4 = some (.array .int, true) := by decide +kernel
theorem zfu_0_5 : pm_ft 0 5 = some (.array .int, true) := by decide +kernel
theorem zfu_0_6 : pm_ft 0 6 = some (.array .int, true) := by decide +kernel
theorem zfu_1_0 : pm_ft 1 0 = some (.object "TownTable$State", true) := by decide +kernel
theorem zfu_1_1 : pm_ft 1 1 = some (.array .long, true) := by decide +kernel
theorem zfu_2_0 : pm_ft 2 0 = some (.array .int, true) := by decide +kernel
theorem zfu_3_0 : pm_ft 3 0 = some (.int, false) := by decide +kernel
theorem zfu_3_1 : pm_ft 3 1 = some (.int, false) := by decide +kernel
theorem zfu_3_2 : pm_ft 3 2 = some (.long, false) := by decide +kernel
theorem zfu_3_3 : pm_ft 3 3 = some (.int, false) := by decide +kernel
theorem zfu_3_4 : pm_ft 3 4 = some (.array .int, true) := by decide +kernel
theorem zfu_3_5 : pm_ft 3 5 = some (.array .int, true) := by decide +kernel
theorem zfu_3_6 : pm_ft 3 6 = some (.array .int, true) := by decide +kernel
theorem zfu_3_7 : pm_ft 3 7 = some (.int, false) := by decide +kernel
theorem zfu_3_8 : pm_ft 3 8 = some (.array .int, true) := by decide +kernel
theorem zfu_3_9 : pm_ft 3 9 = some (.int, false) := by decide +kernel
theorem zfu_3_10 : pm_ft 3 10 = some (.array .int, true) := by decide +kernel
theorem zfu_3_11 : pm_ft 3 11 = some (.boolean, false) := by decide +kernel
theorem zfu_3_12 : pm_ft 3 12 = some (.int, false) := by decide +kernel
theorem zfu_3_13 : pm_ft 3 13 = some (.object "TownTable$Rule", true) := by decide +kernel
theorem zfu_3_14 : pm_ft 3 14 = some (.object "TownTable$Rule", true) := by decide +kernel
theorem zfu_4_0 : pm_ft 4 0 = some (.object "TownTable$RuleReader", true) := by decide +kernel
theorem zfu_5_0 : pm_ft 5 0 = some (.array .int, true) := by decide +kernel
theorem zfu_5_1 : pm_ft 5 1 = some (.array .int, true) := by decide +kernel
theorem zfu_5_2 : pm_ft 5 2 = some (.int, false) := by decide +kernel
theorem zfu_6_0 : pm_ft 6 0 = some (.array .int, true) := by decide +kernel
theorem zfu_7_0 : pm_ft 7 0 = some (.array .int, true) := by decide +kernel
theorem zfu_7_1 : pm_ft 7 1 = some (.array .int, true) := by decide +kernel
theorem zfu_7_2 : pm_ft 7 2 = some (.array .int, true) := by decide +kernel
theorem zfu_8_0 : pm_ft 8 0 = some (.int, false) := by decide +kernel
theorem zfu_8_1 : pm_ft 8 1 = some (.int, false) := by decide +kernel
theorem zfu_8_2 : pm_ft 8 2 = some (.long, false) := by decide +kernel
theorem zfu_8_3 : pm_ft 8 3 = some (.int, false) := by decide +kernel
theorem zfu_8_4 : pm_ft 8 4 = some (.array .int, true) := by decide +kernel
theorem zfu_8_5 : pm_ft 8 5 = some (.array .int, true) := by decide +kernel
theorem zfu_8_6 : pm_ft 8 6 = some (.array .int, true) := by decide +kernel
theorem zfu_8_7 : pm_ft 8 7 = some (.array .int, true) := by decide +kernel
theorem zfu_9_0 : pm_ft 9 0 = some (.array .char, true) := by decide +kernel
theorem zfu_10_0 : pm_ft 10 0 = some (.array .int, true) := by decide +kernel
theorem zfu_10_1 : pm_ft 10 1 = some (.array .int, true) := by decide +kernel
theorem zfu_11_0 : pm_ft 11 0 = some (.object "TownTable$Tape", true) := by decide +kernel
theorem zfu_11_1 : pm_ft 11 1 = some (.object "TownTable$PlanReader", true) := by decide +kernel
theorem zfu_11_2 : pm_ft 11 2 = some (.int, false) := by decide +kernel
theorem zfu_11_3 : pm_ft 11 3 = some (.array .int, true) := by decide +kernel
theorem zfu_11_4 : pm_ft 11 4 = some (.object "TownTable$Plan", false) := by decide +kernel
theorem zfu_11_5 : pm_ft 11 5 = some (.object "TownTable$Plan", false) := by decide +kernel
theorem zfu_11_6 : pm_ft 11 6 = some (.object "TownTable$State", true) := by decide +kernel
theorem zfu_11_7 : pm_ft 11 7 = some (.object "TownTable$Diary", true) := by decide +kernel
theorem zfu_11_9 : pm_ft 11 9 = some (.object "TownTable$State", true) := by decide +kernel
theorem zfu_11_10 : pm_ft 11 10 = some (.object "TownTable$Diary", true) := by decide +kernel
theorem zfu_11_11 : pm_ft 11 11 = some (.object "TownTable$Mover", true) := by decide +kernel
theorem zfu_11_12 : pm_ft 11 12 = some (.object "TownTable$State", true) := by decide +kernel
theorem zfu_11_13 : pm_ft 11 13 = some (.object "TownTable$Ways", true) := by decide +kernel
theorem zfu_11_14 : pm_ft 11 14 = some (.object "TownTable$Seating", true) := by decide +kernel
theorem zfu_11_15 : pm_ft 11 15 = some (.object "TownTable$Guesses", true) := by decide +kernel
theorem zfu_11_16 : pm_ft 11 16 = some (.array .int, true) := by decide +kernel
theorem zfu_11_17 : pm_ft 11 17 = some (.array .int, true) := by decide +kernel
theorem zfu_11_18 : pm_ft 11 18 = some (.array .int, true) := by decide +kernel
theorem zfu_12_1 : pm_ft 12 1 = some (.int, false) := by decide +kernel
theorem zfu_12_2 : pm_ft 12 2 = some (.int, false) := by decide +kernel
theorem zfu_12_6 : pm_ft 12 6 = some (.int, false) := by decide +kernel
theorem zfu_12_7 : pm_ft 12 7 = some (.int, false) := by decide +kernel
theorem zfu_12_8 : pm_ft 12 8 = some (.int, false) := by decide +kernel
theorem zfu_12_9 : pm_ft 12 9 = some (.array .int, true) := by decide +kernel
theorem zfu_12_10 : pm_ft 12 10 = some (.array .int, true) := by decide +kernel
theorem zfu_12_11 : pm_ft 12 11 = some (.array .int, true) := by decide +kernel
theorem zfu_12_12 : pm_ft 12 12 = some (.array .int, true) := by decide +kernel
theorem zfu_12_13 : pm_ft 12 13 = some (.array .int, true) := by decide +kernel
theorem zfu_12_14 : pm_ft 12 14 = some (.array .int, true) := by decide +kernel
theorem zfu_12_17 : pm_ft 12 17 = some (.int, false) := by decide +kernel
theorem zfu_12_18 : pm_ft 12 18 = some (.array .int, true) := by decide +kernel
theorem zfu_12_40 : pm_ft 12 40 = some (.array .int, true) := by decide +kernel
theorem zfu_12_41 : pm_ft 12 41 = some (.array .int, true) := by decide +kernel
theorem zfu_12_42 : pm_ft 12 42 = some (.array .int, true) := by decide +kernel
theorem zfu_12_43 : pm_ft 12 43 = some (.array .int, true) := by decide +kernel
theorem zfu_12_44 : pm_ft 12 44 = some (.array .int, true) := by decide +kernel
theorem zfu_12_45 : pm_ft 12 45 = some (.array .int, true) := by decide +kernel
theorem zfu_12_46 : pm_ft 12 46 = some (.array .int, true) := by decide +kernel
theorem zfu_12_47 : pm_ft 12 47 = some (.array .boolean, true) := by decide +kernel
theorem zfu_12_48 : pm_ft 12 48 = some (.array .int, true) := by decide +kernel
theorem zfu_12_49 : pm_ft 12 49 = some (.array .int, true) := by decide +kernel
theorem zfu_12_51 : pm_ft 12 51 = some (.array .int, true) := by decide +kernel
theorem zfu_12_52 : pm_ft 12 52 = some (.array .int, true) := by decide +kernel
theorem zfu_12_53 : pm_ft 12 53 = some (.int, false) := by decide +kernel
theorem zfu_12_54 : pm_ft 12 54 = some (.array .int, true) := by decide +kernel
theorem zfu_12_55 : pm_ft 12 55 = some (.array .int, true) := by decide +kernel
theorem zfu_12_56 : pm_ft 12 56 = some (.array .int, true) := by decide +kernel
theorem zfu_12_57 : pm_ft 12 57 = some (.array .int, true) := by decide +kernel
theorem zfu_12_58 : pm_ft 12 58 = some (.array .int, true) := by decide +kernel
theorem zfu_12_59 : pm_ft 12 59 = some (.array .int, true) := by decide +kernel
theorem zfu_12_61 : pm_ft 12 61 = some (.array .int, true) := by decide +kernel
theorem zfu_12_62 : pm_ft 12 62 = some (.array .int, true) := by decide +kernel
theorem zfu_12_63 : pm_ft 12 63 = some (.array .int, true) := by decide +kernel
theorem zfu_12_68 : pm_ft 12 68 = some (.array .int, true) := by decide +kernel
theorem zfu_12_69 : pm_ft 12 69 = some (.array .int, true) := by decide +kernel
theorem zfu_12_70 : pm_ft 12 70 = some (.array .int, true) := by decide +kernel
theorem zkb_64 : (Int8.ofInt (64)).toInt32 = (64 : Int32) := by decide +kernel
theorem zks_128 : (Int16.ofInt (128)).toInt32 = (128 : Int32) := by decide +kernel
theorem zks_140 : (Int16.ofInt (140)).toInt32 = (140 : Int32) := by decide +kernel
theorem zks_512 : (Int16.ofInt (512)).toInt32 = (512 : Int32) := by decide +kernel
theorem zks_950 : (Int16.ofInt (950)).toInt32 = (950 : Int32) := by decide +kernel
theorem zks_1400 : (Int16.ofInt (1400)).toInt32 = (1400 : Int32) := by decide +kernel
theorem zks_2304 : (Int16.ofInt (2304)).toInt32 = (2304 : Int32) := by decide +kernel
def blk_X5_init (a : Nat) : List pE := [.inr (5, [.ref (a + 1), .ref (a + 2), .int 0]), zA 48, zA 700]
theorem in_X5_init {df : Nat → pE} {l0 l l1 : List pE} {a d : Nat} {Q : pQ} (ha : l0.length = a) (hl : l0 ++ [.inr (5, [.null, .null, .int 0])] = l) (hl1 : l0 ++ blk_X5_init a = l1) (hd : 2 ≤ d) (hq : Q (.inl none) (hN df l1)) : pm_call M cost zext d 41 [.ref a] (hN df l) Q := by
  subst ha; subst hl; subst hl1
  obtain ⟨e, rfl⟩ := zd1 hd rfl
  have hc := pm_call_m (M := M) (cost := cost) zext_m e
  refine pm_in zmt_41 (zle rfl) ?_
  rw [zco_41, show (hN df (l0 ++ [.inr (5, [.null, .null, .int 0])])).1 = l0.length + 1 from List.length_append]
  show pm_ev _ _ _ _ (true, true) _ 2 748 _ 0 [some (.ref (l0.length + 0))] [] 0 0 _
  refine g_aload_n (pc' := 1) hc rfl rfl rfl rfl ?_
  refine n_obj (pc' := 4) (k := 0) (l0 := l0) hc rfl rfl (zdq hd rfl) rfl rfl ?_
  refine g_aload_n (pc' := 5) hc rfl rfl rfl rfl ?_
  refine g_bipush (v := 48) (pc' := 7) hc rfl zkb_48 rfl ?_
  refine n_arr (pc' := 9) (kd := 0) (n := 48) (k := 1) (uc' := 1) (us' := 48) (l0 := l0) (b' := [.inr (5, [.null, .null, .int 0]), zA 48]) hc rfl rfl (by decide +kernel) rfl rfl rfl rfl (by omega) rfl rfl rfl rfl ?_
  refine n_put (pc' := 12) (k := 0) (l0 := l0) (b' := [.inr (5, [.ref (l0.length + 1), .null, .int 0]), zA 48]) hc rfl rfl rfl rfl zfu_5_0 rfl (fun _ => rfl) rfl rfl ?_
  refine g_aload_n (pc' := 13) hc rfl rfl rfl rfl ?_
  refine g_sipush (v := 700) (pc' := 16) hc rfl zks_700 rfl ?_
  refine n_arr (pc' := 18) (kd := 0) (n := 700) (k := 2) (uc' := 2) (us' := 748) (l0 := l0) (b' := [.inr (5, [.ref (l0.length + 1), .null, .int 0]), zA 48, zA 700]) hc rfl rfl (by decide +kernel) rfl rfl rfl rfl (by omega) rfl rfl rfl rfl ?_
  refine n_put (pc' := 21) (k := 0) (l0 := l0) (b' := [.inr (5, [.ref (l0.length + 1), .ref (l0.length + 2), .int 0]), zA 48, zA 700]) hc rfl rfl rfl rfl zfu_5_1 rfl (fun _ => rfl) rfl rfl ?_
  exact g_return hc rfl rfl (fun h => by cases h) hq
def blk_X6_init (a : Nat) : List pE := [.inr (6, [.ref (a + 1), .int 0, .int 0, .int 0, .int 0, .int 0]), zA 128]
theorem in_X6_init {df : Nat → pE} {l0 l l1 : List pE} {a d : Nat} {Q : pQ} (ha : l0.length = a) (hl : l0 ++ [.inr (6, [.null, .int 0, .int 0, .int 0, .int 0, .int 0])] = l) (hl1 : l0 ++ blk_X6_init a = l1) (hd : 2 ≤ d) (hq : Q (.inl none) (hN df l1)) : pm_call M cost zext d 47 [.ref a] (hN df l) Q := by
  subst ha; subst hl; subst hl1
  obtain ⟨e, rfl⟩ := zd1 hd rfl
  have hc := pm_call_m (M := M) (cost := cost) zext_m e
  refine pm_in zmt_47 (zle rfl) ?_
  rw [zco_47, show (hN df (l0 ++ [.inr (6, [.null, .int 0, .int 0, .int 0, .int 0, .int 0])])).1 = l0.length + 1 from List.length_append]
  show pm_ev _ _ _ _ (true, true) _ 1 128 _ 0 [some (.ref (l0.length + 0))] [] 0 0 _
  refine g_aload_n (pc' := 1) hc rfl rfl rfl rfl ?_
  refine n_obj (pc' := 4) (k := 0) (l0 := l0) hc rfl rfl (zdq hd rfl) rfl rfl ?_
  refine g_aload_n (pc' := 5) hc rfl rfl rfl rfl ?_
  refine g_sipush (v := 128) (pc' := 8) hc rfl zks_128 rfl ?_
  refine n_arr (pc' := 10) (kd := 0) (n := 128) (k := 1) (uc' := 1) (us' := 128) (l0 := l0) (b' := [.inr (6, [.null, .int 0, .int 0, .int 0, .int 0, .int 0]), zA 128]) hc rfl rfl (by decide +kernel) rfl rfl rfl rfl (by omega) rfl rfl rfl rfl ?_
  refine n_put (pc' := 13) (k := 0) (l0 := l0) (b' := [.inr (6, [.ref (l0.length + 1), .int 0, .int 0, .int 0, .int 0, .int 0]), zA 128]) hc rfl rfl rfl rfl zfu_6_0 rfl (fun _ => rfl) rfl rfl ?_
  exact g_return hc rfl rfl (fun h => by cases h) hq
def blk_X9_init (a : Nat) : List pE := [.inr (9, [.ref (a + 1), .int 0, .int 0, .int 0, .int 0, .int 0, .int 0]), zK 2 700]
theorem in_X9_init {df : Nat → pE} {l0 l l1 : List pE} {a d : Nat} {Q : pQ} (ha : l0.length = a) (hl : l0 ++ [.inr (9, [.null, .int 0, .int 0, .int 0, .int 0, .int 0, .int 0])] = l) (hl1 : l0 ++ blk_X9_init a = l1) (hd : 2 ≤ d) (hq : Q (.inl none) (hN df l1)) : pm_call M cost zext d 80 [.ref a] (hN df l) Q := by
  subst ha; subst hl; subst hl1
  obtain ⟨e, rfl⟩ := zd1 hd rfl
  have hc := pm_call_m (M := M) (cost := cost) zext_m e
  refine pm_in zmt_80 (zle rfl) ?_
  rw [zco_80, show (hN df (l0 ++ [.inr (9, [.null, .int 0, .int 0, .int 0, .int 0, .int 0, .int 0])])).1 = l0.length + 1 from List.length_append]
  show pm_ev _ _ _ _ (true, true) _ 1 700 _ 0 [some (.ref (l0.length + 0))] [] 0 0 _
  refine g_aload_n (pc' := 1) hc rfl rfl rfl rfl ?_
  refine n_obj (pc' := 4) (k := 0) (l0 := l0) hc rfl rfl (zdq hd rfl) rfl rfl ?_
  refine g_aload_n (pc' := 5) hc rfl rfl rfl rfl ?_
  refine g_sipush (v := 700) (pc' := 8) hc rfl zks_700 rfl ?_
  refine n_arr (pc' := 10) (kd := 2) (n := 700) (k := 1) (uc' := 1) (us' := 700) (l0 := l0) (b' := [.inr (9, [.null, .int 0, .int 0, .int 0, .int 0, .int 0, .int 0]), zK 2 700]) hc rfl rfl (by decide +kernel) rfl rfl rfl rfl (by omega) rfl rfl rfl rfl ?_
  refine n_put (pc' := 13) (k := 0) (l0 := l0) (b' := [.inr (9, [.ref (l0.length + 1), .int 0, .int 0, .int 0, .int 0, .int 0, .int 0]), zK 2 700]) hc rfl rfl rfl rfl zfu_9_0 rfl (fun _ => rfl) rfl rfl ?_
  exact g_return hc rfl rfl (fun h => by cases h) hq
def blk_X8_init (a : Nat) : List pE := [.inr (8, [.int 0, .int 0, .long 0, .int 0, .ref (a + 1), .ref (a + 2), .ref (a + 3), .ref (a + 4)]), zA 8, zA 8, zA 8, zA 8]
theorem in_X8_init {df : Nat → pE} {l0 l l1 : List pE} {a d : Nat} {Q : pQ} (ha : l0.length = a) (hl : l0 ++ [.inr (8, [.int 0, .int 0, .long 0, .int 0, .null, .null, .null, .null])] = l) (hl1 : l0 ++ blk_X8_init a = l1) (hd : 2 ≤ d) (hq : Q (.inl none) (hN df l1)) : pm_call M cost zext d 66 [.ref a] (hN df l) Q := by
  subst ha; subst hl; subst hl1
  obtain ⟨e, rfl⟩ := zd1 hd rfl
  have hc := pm_call_m (M := M) (cost := cost) zext_m e
  refine pm_in zmt_66 (zle rfl) ?_
  rw [zco_66, show (hN df (l0 ++ [.inr (8, [.int 0, .int 0, .long 0, .int 0, .null, .null, .null, .null])])).1 = l0.length + 1 from List.length_append]
  show pm_ev _ _ _ _ (true, true) _ 4 32 _ 0 [some (.ref (l0.length + 0))] [] 0 0 _
  refine g_aload_n (pc' := 1) hc rfl rfl rfl rfl ?_
  refine n_obj (pc' := 4) (k := 0) (l0 := l0) hc rfl rfl (zdq hd rfl) rfl rfl ?_
  refine g_aload_n (pc' := 5) hc rfl rfl rfl rfl ?_
  refine g_bipush (v := 8) (pc' := 7) hc rfl zkb_8 rfl ?_
  refine n_arr (pc' := 9) (kd := 0) (n := 8) (k := 1) (uc' := 1) (us' := 8) (l0 := l0) (b' := [.inr (8, [.int 0, .int 0, .long 0, .int 0, .null, .null, .null, .null]), zA 8]) hc rfl rfl (by decide +kernel) rfl rfl rfl rfl (by omega) rfl rfl rfl rfl ?_
  refine n_put (pc' := 12) (k := 0) (l0 := l0) (b' := [.inr (8, [.int 0, .int 0, .long 0, .int 0, .ref (l0.length + 1), .null, .null, .null]), zA 8]) hc rfl rfl rfl rfl zfu_8_4 rfl (fun _ => rfl) rfl rfl ?_
  refine g_aload_n (pc' := 13) hc rfl rfl rfl rfl ?_
  refine g_bipush (v := 8) (pc' := 15) hc rfl zkb_8 rfl ?_
  refine n_arr (pc' := 17) (kd := 0) (n := 8) (k := 2) (uc' := 2) (us' := 16) (l0 := l0) (b' := [.inr (8, [.int 0, .int 0, .long 0, .int 0, .ref (l0.length + 1), .null, .null, .null]), zA 8, zA 8]) hc rfl rfl (by decide +kernel) rfl rfl rfl rfl (by omega) rfl rfl rfl rfl ?_
  refine n_put (pc' := 20) (k := 0) (l0 := l0) (b' := [.inr (8, [.int 0, .int 0, .long 0, .int 0, .ref (l0.length + 1), .ref (l0.length + 2), .null, .null]), zA 8, zA 8]) hc rfl rfl rfl rfl zfu_8_5 rfl (fun _ => rfl) rfl rfl ?_
  refine g_aload_n (pc' := 21) hc rfl rfl rfl rfl ?_
  refine g_bipush (v := 8) (pc' := 23) hc rfl zkb_8 rfl ?_
  refine n_arr (pc' := 25) (kd := 0) (n := 8) (k := 3) (uc' := 3) (us' := 24) (l0 := l0) (b' := [.inr (8, [.int 0, .int 0, .long 0, .int 0, .ref (l0.length + 1), .ref (l0.length + 2), .null, .null]), zA 8, zA 8, zA 8]) hc rfl rfl (by decide +kernel) rfl rfl rfl rfl (by omega) rfl rfl rfl rfl ?_
  refine n_put (pc' := 28) (k := 0) (l0 := l0) (b' := [.inr (8, [.int 0, .int 0, .long 0, .int 0, .ref (l0.length + 1), .ref (l0.length + 2), .ref (l0.length + 3), .null]), zA 8, zA 8, zA 8]) hc rfl rfl rfl rfl zfu_8_6 rfl (fun _ => rfl) rfl rfl ?_
  refine g_aload_n (pc' := 29) hc rfl rfl rfl rfl ?_
  refine g_bipush (v := 8) (pc' := 31) hc rfl zkb_8 rfl ?_
  refine n_arr (pc' := 33) (kd := 0) (n := 8) (k := 4) (uc' := 4) (us' := 32) (l0 := l0) (b' := [.inr (8, [.int 0, .int 0, .long 0, .int 0, .ref (l0.length + 1), .ref (l0.length + 2), .ref (l0.length + 3), .null]), zA 8, zA 8, zA 8, zA 8]) hc rfl rfl (by decide +kernel) rfl rfl rfl rfl (by omega) rfl rfl rfl rfl ?_
  refine n_put (pc' := 36) (k := 0) (l0 := l0) (b' := [.inr (8, [.int 0, .int 0, .long 0, .int 0, .ref (l0.length + 1), .ref (l0.length + 2), .ref (l0.length + 3), .ref (l0.length + 4)]), zA 8, zA 8, zA 8, zA 8]) hc rfl rfl rfl rfl zfu_8_7 rfl (fun _ => rfl) rfl rfl ?_
  exact g_return hc rfl rfl (fun h => by cases h) hq
def blk_X0_init (a : Nat) : List pE := [.inr (0, [.ref (a + 1), .int 0, .int 0, .int 0, .ref (a + 2), .ref (a + 3), .ref (a + 4)]), zA 1120, zA 8, zA 8, zA 8]
theorem in_X0_init {df : Nat → pE} {l0 l l1 : List pE} {a d : Nat} {Q : pQ} (ha : l0.length = a) (hl : l0 ++ [.inr (0, [.null, .int 0, .int 0, .int 0, .null, .null, .null])] = l) (hl1 : l0 ++ blk_X0_init a = l1) (hd : 2 ≤ d) (hq : Q (.inl none) (hN df l1)) : pm_call M cost zext d 0 [.ref a] (hN df l) Q := by
  subst ha; subst hl; subst hl1
  obtain ⟨e, rfl⟩ := zd1 hd rfl
  have hc := pm_call_m (M := M) (cost := cost) zext_m e
  refine pm_in zmt_0 (zle rfl) ?_
  rw [zco_0, show (hN df (l0 ++ [.inr (0, [.null, .int 0, .int 0, .int 0, .null, .null, .null])])).1 = l0.length + 1 from List.length_append]
  show pm_ev _ _ _ _ (true, true) _ 4 1144 _ 0 [some (.ref (l0.length + 0))] [] 0 0 _
  refine g_aload_n (pc' := 1) hc rfl rfl rfl rfl ?_
  refine n_obj (pc' := 4) (k := 0) (l0 := l0) hc rfl rfl (zdq hd rfl) rfl rfl ?_
  refine g_aload_n (pc' := 5) hc rfl rfl rfl rfl ?_
  refine g_sipush (v := 1120) (pc' := 8) hc rfl zks_1120 rfl ?_
  refine n_arr (pc' := 10) (kd := 0) (n := 1120) (k := 1) (uc' := 1) (us' := 1120) (l0 := l0) (b' := [.inr (0, [.null, .int 0, .int 0, .int 0, .null, .null, .null]), zA 1120]) hc rfl rfl (by decide +kernel) rfl rfl rfl rfl (by omega) rfl rfl rfl rfl ?_
  refine n_put (pc' := 13) (k := 0) (l0 := l0) (b' := [.inr (0, [.ref (l0.length + 1), .int 0, .int 0, .int 0, .null, .null, .null]), zA 1120]) hc rfl rfl rfl rfl zfu_0_0 rfl (fun _ => rfl) rfl rfl ?_
  refine g_aload_n (pc' := 14) hc rfl rfl rfl rfl ?_
  refine g_bipush (v := 8) (pc' := 16) hc rfl zkb_8 rfl ?_
  refine n_arr (pc' := 18) (kd := 0) (n := 8) (k := 2) (uc' := 2) (us' := 1128) (l0 := l0) (b' := [.inr (0, [.ref (l0.length + 1), .int 0, .int 0, .int 0, .null, .null, .null]), zA 1120, zA 8]) hc rfl rfl (by decide +kernel) rfl rfl rfl rfl (by omega) rfl rfl rfl rfl ?_
  refine n_put (pc' := 21) (k := 0) (l0 := l0) (b' := [.inr (0, [.ref (l0.length + 1), .int 0, .int 0, .int 0, .ref (l0.length + 2), .null, .null]), zA 1120, zA 8]) hc rfl rfl rfl rfl zfu_0_4 rfl (fun _ => rfl) rfl rfl ?_
  refine g_aload_n (pc' := 22) hc rfl rfl rfl rfl ?_
  refine g_bipush (v := 8) (pc' := 24) hc rfl zkb_8 rfl ?_
  refine n_arr (pc' := 26) (kd := 0) (n := 8) (k := 3) (uc' := 3) (us' := 1136) (l0 := l0) (b' := [.inr (0, [.ref (l0.length + 1), .int 0, .int 0, .int 0, .ref (l0.length + 2), .null, .null]), zA 1120, zA 8, zA 8]) hc rfl rfl (by decide +kernel) rfl rfl rfl rfl (by omega) rfl rfl rfl rfl ?_
  refine n_put (pc' := 29) (k := 0) (l0 := l0) (b' := [.inr (0, [.ref (l0.length + 1), .int 0, .int 0, .int 0, .ref (l0.length + 2), .ref (l0.length + 3), .null]), zA 1120, zA 8, zA 8]) hc rfl rfl rfl rfl zfu_0_5 rfl (fun _ => rfl) rfl rfl ?_
  refine g_aload_n (pc' := 30) hc rfl rfl rfl rfl ?_
  refine g_bipush (v := 8) (pc' := 32) hc rfl zkb_8 rfl ?_
  refine n_arr (pc' := 34) (kd := 0) (n := 8) (k := 4) (uc' := 4) (us' := 1144) (l0 := l0) (b' := [.inr (0, [.ref (l0.length + 1), .int 0, .int 0, .int 0, .ref (l0.length + 2), .ref (l0.length + 3), .null]), zA 1120, zA 8, zA 8, zA 8]) hc rfl rfl (by decide +kernel) rfl rfl rfl rfl (by omega) rfl rfl rfl rfl ?_
  refine n_put (pc' := 37) (k := 0) (l0 := l0) (b' := [.inr (0, [.ref (l0.length + 1), .int 0, .int 0, .int 0, .ref (l0.length + 2), .ref (l0.length + 3), .ref (l0.length + 4)]), zA 1120, zA 8, zA 8, zA 8]) hc rfl rfl rfl rfl zfu_0_6 rfl (fun _ => rfl) rfl rfl ?_
  exact g_return hc rfl rfl (fun h => by cases h) hq
def blk_X2_init (a : Nat) : List pE := [.inr (2, [.ref (a + 1)]), zA 6]
theorem in_X2_init {df : Nat → pE} {l0 l l1 : List pE} {a d : Nat} {Q : pQ} (ha : l0.length = a) (hl : l0 ++ [.inr (2, [.null])] = l) (hl1 : l0 ++ blk_X2_init a = l1) (hd : 2 ≤ d) (hq : Q (.inl none) (hN df l1)) : pm_call M cost zext d 12 [.ref a] (hN df l) Q := by
  subst ha; subst hl; subst hl1
  obtain ⟨e, rfl⟩ := zd1 hd rfl
  have hc := pm_call_m (M := M) (cost := cost) zext_m e
  refine pm_in zmt_12 (zle rfl) ?_
  rw [zco_12, show (hN df (l0 ++ [.inr (2, [.null])])).1 = l0.length + 1 from List.length_append]
  show pm_ev _ _ _ _ (true, true) _ 1 6 _ 0 [some (.ref (l0.length + 0))] [] 0 0 _
  refine g_aload_n (pc' := 1) hc rfl rfl rfl rfl ?_
  refine n_obj (pc' := 4) (k := 0) (l0 := l0) hc rfl rfl (zdq hd rfl) rfl rfl ?_
  refine g_aload_n (pc' := 5) hc rfl rfl rfl rfl ?_
  refine g_bipush (v := 6) (pc' := 7) hc rfl zkb_6 rfl ?_
  refine n_arr (pc' := 9) (kd := 0) (n := 6) (k := 1) (uc' := 1) (us' := 6) (l0 := l0) (b' := [.inr (2, [.null]), zA 6]) hc rfl rfl (by decide +kernel) rfl rfl rfl rfl (by omega) rfl rfl rfl rfl ?_
  refine n_put (pc' := 12) (k := 0) (l0 := l0) (b' := [.inr (2, [.ref (l0.length + 1)]), zA 6]) hc rfl rfl rfl rfl zfu_2_0 rfl (fun _ => rfl) rfl rfl ?_
  exact g_return hc rfl rfl (fun h => by cases h) hq
def blk_X10_init (a : Nat) : List pE := [.inr (10, [.ref (a + 1), .ref (a + 2)]), zA 36, zA 36]
theorem in_X10_init {df : Nat → pE} {l0 l l1 : List pE} {a d : Nat} {Q : pQ} (ha : l0.length = a) (hl : l0 ++ [.inr (10, [.null, .null])] = l) (hl1 : l0 ++ blk_X10_init a = l1) (hd : 2 ≤ d) (hq : Q (.inl none) (hN df l1)) : pm_call M cost zext d 91 [.ref a] (hN df l) Q := by
  subst ha; subst hl; subst hl1
  obtain ⟨e, rfl⟩ := zd1 hd rfl
  have hc := pm_call_m (M := M) (cost := cost) zext_m e
  refine pm_in zmt_91 (zle rfl) ?_
  rw [zco_91, show (hN df (l0 ++ [.inr (10, [.null, .null])])).1 = l0.length + 1 from List.length_append]
  show pm_ev _ _ _ _ (true, true) _ 2 72 _ 0 [some (.ref (l0.length + 0))] [] 0 0 _
  refine g_aload_n (pc' := 1) hc rfl rfl rfl rfl ?_
  refine n_obj (pc' := 4) (k := 0) (l0 := l0) hc rfl rfl (zdq hd rfl) rfl rfl ?_
  refine g_aload_n (pc' := 5) hc rfl rfl rfl rfl ?_
  refine g_bipush (v := 36) (pc' := 7) hc rfl zkb_36 rfl ?_
  refine n_arr (pc' := 9) (kd := 0) (n := 36) (k := 1) (uc' := 1) (us' := 36) (l0 := l0) (b' := [.inr (10, [.null, .null]), zA 36]) hc rfl rfl (by decide +kernel) rfl rfl rfl rfl (by omega) rfl rfl rfl rfl ?_
  refine n_put (pc' := 12) (k := 0) (l0 := l0) (b' := [.inr (10, [.ref (l0.length + 1), .null]), zA 36]) hc rfl rfl rfl rfl zfu_10_0 rfl (fun _ => rfl) rfl rfl ?_
  refine g_aload_n (pc' := 13) hc rfl rfl rfl rfl ?_
  refine g_bipush (v := 36) (pc' := 15) hc rfl zkb_36 rfl ?_
  refine n_arr (pc' := 17) (kd := 0) (n := 36) (k := 2) (uc' := 2) (us' := 72) (l0 := l0) (b' := [.inr (10, [.ref (l0.length + 1), .null]), zA 36, zA 36]) hc rfl rfl (by decide +kernel) rfl rfl rfl rfl (by omega) rfl rfl rfl rfl ?_
  refine n_put (pc' := 20) (k := 0) (l0 := l0) (b' := [.inr (10, [.ref (l0.length + 1), .ref (l0.length + 2)]), zA 36, zA 36]) hc rfl rfl rfl rfl zfu_10_1 rfl (fun _ => rfl) rfl rfl ?_
  exact g_return hc rfl rfl (fun h => by cases h) hq
def blk_X7_init (a : Nat) : List pE := [.inr (7, [.ref (a + 1), .ref (a + 2), .ref (a + 3), .int 0, .int 0]), zA 64, zA 2304, zA 8]
theorem in_X7_init {df : Nat → pE} {l0 l l1 : List pE} {a d : Nat} {Q : pQ} (ha : l0.length = a) (hl : l0 ++ [.inr (7, [.null, .null, .null, .int 0, .int 0])] = l) (hl1 : l0 ++ blk_X7_init a = l1) (hd : 2 ≤ d) (hq : Q (.inl none) (hN df l1)) : pm_call M cost zext d 60 [.ref a] (hN df l) Q := by
  subst ha; subst hl; subst hl1
  obtain ⟨e, rfl⟩ := zd1 hd rfl
  have hc := pm_call_m (M := M) (cost := cost) zext_m e
  refine pm_in zmt_60 (zle rfl) ?_
  rw [zco_60, show (hN df (l0 ++ [.inr (7, [.null, .null, .null, .int 0, .int 0])])).1 = l0.length + 1 from List.length_append]
  show pm_ev _ _ _ _ (true, true) _ 3 2376 _ 0 [some (.ref (l0.length + 0))] [] 0 0 _
  refine g_aload_n (pc' := 1) hc rfl rfl rfl rfl ?_
  refine n_obj (pc' := 4) (k := 0) (l0 := l0) hc rfl rfl (zdq hd rfl) rfl rfl ?_
  refine g_aload_n (pc' := 5) hc rfl rfl rfl rfl ?_
  refine g_bipush (v := 64) (pc' := 7) hc rfl zkb_64 rfl ?_
  refine n_arr (pc' := 9) (kd := 0) (n := 64) (k := 1) (uc' := 1) (us' := 64) (l0 := l0) (b' := [.inr (7, [.null, .null, .null, .int 0, .int 0]), zA 64]) hc rfl rfl (by decide +kernel) rfl rfl rfl rfl (by omega) rfl rfl rfl rfl ?_
  refine n_put (pc' := 12) (k := 0) (l0 := l0) (b' := [.inr (7, [.ref (l0.length + 1), .null, .null, .int 0, .int 0]), zA 64]) hc rfl rfl rfl rfl zfu_7_0 rfl (fun _ => rfl) rfl rfl ?_
  refine g_aload_n (pc' := 13) hc rfl rfl rfl rfl ?_
  refine g_sipush (v := 2304) (pc' := 16) hc rfl zks_2304 rfl ?_
  refine n_arr (pc' := 18) (kd := 0) (n := 2304) (k := 2) (uc' := 2) (us' := 2368) (l0 := l0) (b' := [.inr (7, [.ref (l0.length + 1), .null, .null, .int 0, .int 0]), zA 64, zA 2304]) hc rfl rfl (by decide +kernel) rfl rfl rfl rfl (by omega) rfl rfl rfl rfl ?_
  refine n_put (pc' := 21) (k := 0) (l0 := l0) (b' := [.inr (7, [.ref (l0.length + 1), .ref (l0.length + 2), .null, .int 0, .int 0]), zA 64, zA 2304]) hc rfl rfl rfl rfl zfu_7_1 rfl (fun _ => rfl) rfl rfl ?_
  refine g_aload_n (pc' := 22) hc rfl rfl rfl rfl ?_
  refine g_bipush (v := 8) (pc' := 24) hc rfl zkb_8 rfl ?_
  refine n_arr (pc' := 26) (kd := 0) (n := 8) (k := 3) (uc' := 3) (us' := 2376) (l0 := l0) (b' := [.inr (7, [.ref (l0.length + 1), .ref (l0.length + 2), .null, .int 0, .int 0]), zA 64, zA 2304, zA 8]) hc rfl rfl (by decide +kernel) rfl rfl rfl rfl (by omega) rfl rfl rfl rfl ?_
  refine n_put (pc' := 29) (k := 0) (l0 := l0) (b' := [.inr (7, [.ref (l0.length + 1), .ref (l0.length + 2), .ref (l0.length + 3), .int 0, .int 0]), zA 64, zA 2304, zA 8]) hc rfl rfl rfl rfl zfu_7_2 rfl (fun _ => rfl) rfl rfl ?_
  exact g_return hc rfl rfl (fun h => by cases h) hq
def blk_X4_init (a : Nat) : List pE := [.inr (4, [.ref (a + 1), .int 0]), .inr (6, [.ref (a + 2), .int 0, .int 0, .int 0, .int 0, .int 0]), zA 128]
theorem in_X4_init {df : Nat → pE} {l0 l l1 : List pE} {a d : Nat} {Q : pQ} (ha : l0.length = a) (hl : l0 ++ [.inr (4, [.null, .int 0])] = l) (hl1 : l0 ++ blk_X4_init a = l1) (hd : 3 ≤ d) (hq : Q (.inl none) (hN df l1)) : pm_call M cost zext d 29 [.ref a] (hN df l) Q := by
  subst ha; subst hl; subst hl1
  obtain ⟨e, rfl⟩ := zd1 hd rfl
  have hc := pm_call_m (M := M) (cost := cost) zext_m e
  refine pm_in zmt_29 (zle rfl) ?_
  rw [zco_29, show (hN df (l0 ++ [.inr (4, [.null, .int 0])])).1 = l0.length + 1 from List.length_append]
  show pm_ev _ _ _ _ (true, true) _ 2 134 _ 0 [some (.ref (l0.length + 0))] [] 0 0 _
  refine g_aload_n (pc' := 1) hc rfl rfl rfl rfl ?_
  refine n_obj (pc' := 4) (k := 0) (l0 := l0) hc rfl rfl (zdq hd rfl) rfl rfl ?_
  refine g_aload_n (pc' := 5) hc rfl rfl rfl rfl ?_
  refine n_new (pc' := 8) (k := 1) (uc' := 1) (us' := 6) (l0 := l0) (b' := [.inr (4, [.null, .int 0]), .inr (6, [.null, .int 0, .int 0, .int 0, .int 0, .int 0])]) hc rfl rfl rfl rfl rfl rfl rfl (by omega) rfl rfl rfl rfl ?_
  refine g_dup (pc' := 9) hc rfl rfl rfl ?_
  refine n_ctor (pc' := 12) (k := 2) (uc' := 2) (us' := 134) (l0 := l0) (b' := [.inr (4, [.null, .int 0]), .inr (6, [.ref (l0.length + 2), .int 0, .int 0, .int 0, .int 0, .int 0]), zA 128]) hc rfl rfl (Or.inl rfl) zco_47 rfl rfl rfl (by omega) rfl rfl rfl rfl rfl (fun Q hq => in_X6_init (l0 := l0 ++ [.inr (4, [.null, .int 0])]) (by rw [List.length_append]; rfl) (by rw [List.append_assoc]; rfl) (by rw [List.append_assoc]; rfl) (zdp hd rfl) hq) ?_ ⟨_, rfl⟩
  refine n_put (pc' := 15) (k := 0) (l0 := l0) (b' := [.inr (4, [.ref (l0.length + 1), .int 0]), .inr (6, [.ref (l0.length + 2), .int 0, .int 0, .int 0, .int 0, .int 0]), zA 128]) hc rfl rfl rfl rfl zfu_4_0 rfl (fun _ => rfl) rfl rfl ?_
  exact g_return hc rfl rfl (fun h => by cases h) hq
def blk_X1_init (a : Nat) : List pE := [.inr (1, [.ref (a + 1), .ref (a + 6), .int 0, .int 0]), .inr (8, [.int 0, .int 0, .long 0, .int 0, .ref (a + 2), .ref (a + 3), .ref (a + 4), .ref (a + 5)]), zA 8, zA 8, zA 8, zA 8, zK 1 8]
theorem in_X1_init {df : Nat → pE} {l0 l l1 : List pE} {a d : Nat} {Q : pQ} (ha : l0.length = a) (hl : l0 ++ [.inr (1, [.null, .null, .int 0, .int 0])] = l) (hl1 : l0 ++ blk_X1_init a = l1) (hd : 3 ≤ d) (hq : Q (.inl none) (hN df l1)) : pm_call M cost zext d 8 [.ref a] (hN df l) Q := by
  subst ha; subst hl; subst hl1
  obtain ⟨e, rfl⟩ := zd1 hd rfl
  have hc := pm_call_m (M := M) (cost := cost) zext_m e
  refine pm_in zmt_8 (zle rfl) ?_
  rw [zco_8, show (hN df (l0 ++ [.inr (1, [.null, .null, .int 0, .int 0])])).1 = l0.length + 1 from List.length_append]
  show pm_ev _ _ _ _ (true, true) _ 6 48 _ 0 [some (.ref (l0.length + 0))] [] 0 0 _
  refine g_aload_n (pc' := 1) hc rfl rfl rfl rfl ?_
  refine n_obj (pc' := 4) (k := 0) (l0 := l0) hc rfl rfl (zdq hd rfl) rfl rfl ?_
  refine g_aload_n (pc' := 5) hc rfl rfl rfl rfl ?_
  refine n_new (pc' := 8) (k := 1) (uc' := 1) (us' := 8) (l0 := l0) (b' := [.inr (1, [.null, .null, .int 0, .int 0]), .inr (8, [.int 0, .int 0, .long 0, .int 0, .null, .null, .null, .null])]) hc rfl rfl rfl rfl rfl rfl rfl (by omega) rfl rfl rfl rfl ?_
  refine g_dup (pc' := 9) hc rfl rfl rfl ?_
  refine n_ctor (pc' := 12) (k := 2) (uc' := 5) (us' := 40) (l0 := l0) (b' := [.inr (1, [.null, .null, .int 0, .int 0]), .inr (8, [.int 0, .int 0, .long 0, .int 0, .ref (l0.length + 2), .ref (l0.length + 3), .ref (l0.length + 4), .ref (l0.length + 5)]), zA 8, zA 8, zA 8, zA 8]) hc rfl rfl (Or.inl rfl) zco_66 rfl rfl rfl (by omega) rfl rfl rfl rfl rfl (fun Q hq => in_X8_init (l0 := l0 ++ [.inr (1, [.null, .null, .int 0, .int 0])]) (by rw [List.length_append]; rfl) (by rw [List.append_assoc]; rfl) (by rw [List.append_assoc]; rfl) (zdp hd rfl) hq) ?_ ⟨_, rfl⟩
  refine n_put (pc' := 15) (k := 0) (l0 := l0) (b' := [.inr (1, [.ref (l0.length + 1), .null, .int 0, .int 0]), .inr (8, [.int 0, .int 0, .long 0, .int 0, .ref (l0.length + 2), .ref (l0.length + 3), .ref (l0.length + 4), .ref (l0.length + 5)]), zA 8, zA 8, zA 8, zA 8]) hc rfl rfl rfl rfl zfu_1_0 rfl (fun _ => rfl) rfl rfl ?_
  refine g_aload_n (pc' := 16) hc rfl rfl rfl rfl ?_
  refine g_bipush (v := 8) (pc' := 18) hc rfl zkb_8 rfl ?_
  refine n_arr (pc' := 20) (kd := 1) (n := 8) (k := 6) (uc' := 6) (us' := 48) (l0 := l0) (b' := [.inr (1, [.ref (l0.length + 1), .null, .int 0, .int 0]), .inr (8, [.int 0, .int 0, .long 0, .int 0, .ref (l0.length + 2), .ref (l0.length + 3), .ref (l0.length + 4), .ref (l0.length + 5)]), zA 8, zA 8, zA 8, zA 8, zK 1 8]) hc rfl rfl (by decide +kernel) rfl rfl rfl rfl (by omega) rfl rfl rfl rfl ?_
  refine n_put (pc' := 23) (k := 0) (l0 := l0) (b' := [.inr (1, [.ref (l0.length + 1), .ref (l0.length + 6), .int 0, .int 0]), .inr (8, [.int 0, .int 0, .long 0, .int 0, .ref (l0.length + 2), .ref (l0.length + 3), .ref (l0.length + 4), .ref (l0.length + 5)]), zA 8, zA 8, zA 8, zA 8, zK 1 8]) hc rfl rfl rfl rfl zfu_1_1 rfl (fun _ => rfl) rfl rfl ?_
  exact g_return hc rfl rfl (fun h => by cases h) hq
def blk_X3_init (a : Nat) : List pE := [.inr (3, [.int 0, .int 0, .long 0, .int 0, .ref (a + 1), .ref (a + 2), .ref (a + 3), .int 0, .ref (a + 4), .int 0, .ref (a + 5), .int 0, .int 0, .ref (a + 6), .ref (a + 9)]), zA 8, zA 8, zA 64, zA 8, zA 8, .inr (5, [.ref (a + 7), .ref (a + 8), .int 0]), zA 48, zA 700, .inr (5, [.ref (a + 10), .ref (a + 11), .int 0]), zA 48, zA 700]
theorem in_X3_init {df : Nat → pE} {l0 l l1 : List pE} {a d : Nat} {Q : pQ} (ha : l0.length = a) (hl : l0 ++ [.inr (3, [.int 0, .int 0, .long 0, .int 0, .null, .null, .null, .int 0, .null, .int 0, .null, .int 0, .int 0, .null, .null])] = l) (hl1 : l0 ++ blk_X3_init a = l1) (hd : 3 ≤ d) (hq : Q (.inl none) (hN df l1)) : pm_call M cost zext d 19 [.ref a] (hN df l) Q := by
  subst ha; subst hl; subst hl1
  obtain ⟨e, rfl⟩ := zd1 hd rfl
  have hc := pm_call_m (M := M) (cost := cost) zext_m e
  refine pm_in zmt_19 (zle rfl) ?_
  rw [zco_19, show (hN df (l0 ++ [.inr (3, [.int 0, .int 0, .long 0, .int 0, .null, .null, .null, .int 0, .null, .int 0, .null, .int 0, .int 0, .null, .null])])).1 = l0.length + 1 from List.length_append]
  show pm_ev _ _ _ _ (true, true) _ 11 1598 _ 0 [some (.ref (l0.length + 0))] [] 0 0 _
  refine g_aload_n (pc' := 1) hc rfl rfl rfl rfl ?_
  refine n_obj (pc' := 4) (k := 0) (l0 := l0) hc rfl rfl (zdq hd rfl) rfl rfl ?_
  refine g_aload_n (pc' := 5) hc rfl rfl rfl rfl ?_
  refine g_bipush (v := 8) (pc' := 7) hc rfl zkb_8 rfl ?_
  refine n_arr (pc' := 9) (kd := 0) (n := 8) (k := 1) (uc' := 1) (us' := 8) (l0 := l0) (b' := [.inr (3, [.int 0, .int 0, .long 0, .int 0, .null, .null, .null, .int 0, .null, .int 0, .null, .int 0, .int 0, .null, .null]), zA 8]) hc rfl rfl (by decide +kernel) rfl rfl rfl rfl (by omega) rfl rfl rfl rfl ?_
  refine n_put (pc' := 12) (k := 0) (l0 := l0) (b' := [.inr (3, [.int 0, .int 0, .long 0, .int 0, .ref (l0.length + 1), .null, .null, .int 0, .null, .int 0, .null, .int 0, .int 0, .null, .null]), zA 8]) hc rfl rfl rfl rfl zfu_3_4 rfl (fun _ => rfl) rfl rfl ?_
  refine g_aload_n (pc' := 13) hc rfl rfl rfl rfl ?_
  refine g_bipush (v := 8) (pc' := 15) hc rfl zkb_8 rfl ?_
  refine n_arr (pc' := 17) (kd := 0) (n := 8) (k := 2) (uc' := 2) (us' := 16) (l0 := l0) (b' := [.inr (3, [.int 0, .int 0, .long 0, .int 0, .ref (l0.length + 1), .null, .null, .int 0, .null, .int 0, .null, .int 0, .int 0, .null, .null]), zA 8, zA 8]) hc rfl rfl (by decide +kernel) rfl rfl rfl rfl (by omega) rfl rfl rfl rfl ?_
  refine n_put (pc' := 20) (k := 0) (l0 := l0) (b' := [.inr (3, [.int 0, .int 0, .long 0, .int 0, .ref (l0.length + 1), .ref (l0.length + 2), .null, .int 0, .null, .int 0, .null, .int 0, .int 0, .null, .null]), zA 8, zA 8]) hc rfl rfl rfl rfl zfu_3_5 rfl (fun _ => rfl) rfl rfl ?_
  refine g_aload_n (pc' := 21) hc rfl rfl rfl rfl ?_
  refine g_bipush (v := 64) (pc' := 23) hc rfl zkb_64 rfl ?_
  refine n_arr (pc' := 25) (kd := 0) (n := 64) (k := 3) (uc' := 3) (us' := 80) (l0 := l0) (b' := [.inr (3, [.int 0, .int 0, .long 0, .int 0, .ref (l0.length + 1), .ref (l0.length + 2), .null, .int 0, .null, .int 0, .null, .int 0, .int 0, .null, .null]), zA 8, zA 8, zA 64]) hc rfl rfl (by decide +kernel) rfl rfl rfl rfl (by omega) rfl rfl rfl rfl ?_
  refine n_put (pc' := 28) (k := 0) (l0 := l0) (b' := [.inr (3, [.int 0, .int 0, .long 0, .int 0, .ref (l0.length + 1), .ref (l0.length + 2), .ref (l0.length + 3), .int 0, .null, .int 0, .null, .int 0, .int 0, .null, .null]), zA 8, zA 8, zA 64]) hc rfl rfl rfl rfl zfu_3_6 rfl (fun _ => rfl) rfl rfl ?_
  refine g_aload_n (pc' := 29) hc rfl rfl rfl rfl ?_
  refine g_bipush (v := 8) (pc' := 31) hc rfl zkb_8 rfl ?_
  refine n_arr (pc' := 33) (kd := 0) (n := 8) (k := 4) (uc' := 4) (us' := 88) (l0 := l0) (b' := [.inr (3, [.int 0, .int 0, .long 0, .int 0, .ref (l0.length + 1), .ref (l0.length + 2), .ref (l0.length + 3), .int 0, .null, .int 0, .null, .int 0, .int 0, .null, .null]), zA 8, zA 8, zA 64, zA 8]) hc rfl rfl (by decide +kernel) rfl rfl rfl rfl (by omega) rfl rfl rfl rfl ?_
  refine n_put (pc' := 36) (k := 0) (l0 := l0) (b' := [.inr (3, [.int 0, .int 0, .long 0, .int 0, .ref (l0.length + 1), .ref (l0.length + 2), .ref (l0.length + 3), .int 0, .ref (l0.length + 4), .int 0, .null, .int 0, .int 0, .null, .null]), zA 8, zA 8, zA 64, zA 8]) hc rfl rfl rfl rfl zfu_3_8 rfl (fun _ => rfl) rfl rfl ?_
  refine g_aload_n (pc' := 37) hc rfl rfl rfl rfl ?_
  refine g_bipush (v := 8) (pc' := 39) hc rfl zkb_8 rfl ?_
  refine n_arr (pc' := 41) (kd := 0) (n := 8) (k := 5) (uc' := 5) (us' := 96) (l0 := l0) (b' := [.inr (3, [.int 0, .int 0, .long 0, .int 0, .ref (l0.length + 1), .ref (l0.length + 2), .ref (l0.length + 3), .int 0, .ref (l0.length + 4), .int 0, .null, .int 0, .int 0, .null, .null]), zA 8, zA 8, zA 64, zA 8, zA 8]) hc rfl rfl (by decide +kernel) rfl rfl rfl rfl (by omega) rfl rfl rfl rfl ?_
  refine n_put (pc' := 44) (k := 0) (l0 := l0) (b' := [.inr (3, [.int 0, .int 0, .long 0, .int 0, .ref (l0.length + 1), .ref (l0.length + 2), .ref (l0.length + 3), .int 0, .ref (l0.length + 4), .int 0, .ref (l0.length + 5), .int 0, .int 0, .null, .null]), zA 8, zA 8, zA 64, zA 8, zA 8]) hc rfl rfl rfl rfl zfu_3_10 rfl (fun _ => rfl) rfl rfl ?_
  refine g_aload_n (pc' := 45) hc rfl rfl rfl rfl ?_
  refine n_new (pc' := 48) (k := 6) (uc' := 6) (us' := 99) (l0 := l0) (b' := [.inr (3, [.int 0, .int 0, .long 0, .int 0, .ref (l0.length + 1), .ref (l0.length + 2), .ref (l0.length + 3), .int 0, .ref (l0.length + 4), .int 0, .ref (l0.length + 5), .int 0, .int 0, .null, .null]), zA 8, zA 8, zA 64, zA 8, zA 8, .inr (5, [.null, .null, .int 0])]) hc rfl rfl rfl rfl rfl rfl rfl (by omega) rfl rfl rfl rfl ?_
  refine g_dup (pc' := 49) hc rfl rfl rfl ?_
  refine n_ctor (pc' := 52) (k := 7) (uc' := 8) (us' := 847) (l0 := l0) (b' := [.inr (3, [.int 0, .int 0, .long 0, .int 0, .ref (l0.length + 1), .ref (l0.length + 2), .ref (l0.length + 3), .int 0, .ref (l0.length + 4), .int 0, .ref (l0.length + 5), .int 0, .int 0, .null, .null]), zA 8, zA 8, zA 64, zA 8, zA 8, .inr (5, [.ref (l0.length + 7), .ref (l0.length + 8), .int 0]), zA 48, zA 700]) hc rfl rfl (Or.inl rfl) zco_41 rfl rfl rfl (by omega) rfl rfl rfl rfl rfl (fun Q hq => in_X5_init (l0 := l0 ++ [.inr (3, [.int 0, .int 0, .long 0, .int 0, .ref (l0.length + 1), .ref (l0.length + 2), .ref (l0.length + 3), .int 0, .ref (l0.length + 4), .int 0, .ref (l0.length + 5), .int 0, .int 0, .null, .null]), zA 8, zA 8, zA 64, zA 8, zA 8]) (by rw [List.length_append]; rfl) (by rw [List.append_assoc]; rfl) (by rw [List.append_assoc]; rfl) (zdp hd rfl) hq) ?_ ⟨_, rfl⟩
  refine n_put (pc' := 55) (k := 0) (l0 := l0) (b' := [.inr (3, [.int 0, .int 0, .long 0, .int 0, .ref (l0.length + 1), .ref (l0.length + 2), .ref (l0.length + 3), .int 0, .ref (l0.length + 4), .int 0, .ref (l0.length + 5), .int 0, .int 0, .ref (l0.length + 6), .null]), zA 8, zA 8, zA 64, zA 8, zA 8, .inr (5, [.ref (l0.length + 7), .ref (l0.length + 8), .int 0]), zA 48, zA 700]) hc rfl rfl rfl rfl zfu_3_13 rfl (fun _ => rfl) rfl rfl ?_
  refine g_aload_n (pc' := 56) hc rfl rfl rfl rfl ?_
  refine n_new (pc' := 59) (k := 9) (uc' := 9) (us' := 850) (l0 := l0) (b' := [.inr (3, [.int 0, .int 0, .long 0, .int 0, .ref (l0.length + 1), .ref (l0.length + 2), .ref (l0.length + 3), .int 0, .ref (l0.length + 4), .int 0, .ref (l0.length + 5), .int 0, .int 0, .ref (l0.length + 6), .null]), zA 8, zA 8, zA 64, zA 8, zA 8, .inr (5, [.ref (l0.length + 7), .ref (l0.length + 8), .int 0]), zA 48, zA 700, .inr (5, [.null, .null, .int 0])]) hc rfl rfl rfl rfl rfl rfl rfl (by omega) rfl rfl rfl rfl ?_
  refine g_dup (pc' := 60) hc rfl rfl rfl ?_
  refine n_ctor (pc' := 63) (k := 10) (uc' := 11) (us' := 1598) (l0 := l0) (b' := [.inr (3, [.int 0, .int 0, .long 0, .int 0, .ref (l0.length + 1), .ref (l0.length + 2), .ref (l0.length + 3), .int 0, .ref (l0.length + 4), .int 0, .ref (l0.length + 5), .int 0, .int 0, .ref (l0.length + 6), .null]), zA 8, zA 8, zA 64, zA 8, zA 8, .inr (5, [.ref (l0.length + 7), .ref (l0.length + 8), .int 0]), zA 48, zA 700, .inr (5, [.ref (l0.length + 10), .ref (l0.length + 11), .int 0]), zA 48, zA 700]) hc rfl rfl (Or.inl rfl) zco_41 rfl rfl rfl (by omega) rfl rfl rfl rfl rfl (fun Q hq => in_X5_init (l0 := l0 ++ [.inr (3, [.int 0, .int 0, .long 0, .int 0, .ref (l0.length + 1), .ref (l0.length + 2), .ref (l0.length + 3), .int 0, .ref (l0.length + 4), .int 0, .ref (l0.length + 5), .int 0, .int 0, .ref (l0.length + 6), .null]), zA 8, zA 8, zA 64, zA 8, zA 8, .inr (5, [.ref (l0.length + 7), .ref (l0.length + 8), .int 0]), zA 48, zA 700]) (by rw [List.length_append]; rfl) (by rw [List.append_assoc]; rfl) (by rw [List.append_assoc]; rfl) (zdp hd rfl) hq) ?_ ⟨_, rfl⟩
  refine n_put (pc' := 66) (k := 0) (l0 := l0) (b' := [.inr (3, [.int 0, .int 0, .long 0, .int 0, .ref (l0.length + 1), .ref (l0.length + 2), .ref (l0.length + 3), .int 0, .ref (l0.length + 4), .int 0, .ref (l0.length + 5), .int 0, .int 0, .ref (l0.length + 6), .ref (l0.length + 9)]), zA 8, zA 8, zA 64, zA 8, zA 8, .inr (5, [.ref (l0.length + 7), .ref (l0.length + 8), .int 0]), zA 48, zA 700, .inr (5, [.ref (l0.length + 10), .ref (l0.length + 11), .int 0]), zA 48, zA 700]) hc rfl rfl rfl rfl zfu_3_14 rfl (fun _ => rfl) rfl rfl ?_
  exact g_return hc rfl rfl (fun h => by cases h) hq
