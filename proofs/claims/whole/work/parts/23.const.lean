/-- the texts, by their numbers -/
def ztx : List (List Nat) := [[116, 104, 101, 32, 116, 97, 112, 101, 32, 104, 97, 115, 32, 110, 111, 116, 32, 115, 111, 32, 109, 97, 110, 121, 32, 98, 121, 116, 101, 115], [59, 40, 41, 43, 45, 42, 47, 60, 61], [116, 97, 98, 108, 101], [119, 97, 108, 108], [102, 105, 103, 117, 114, 101], [115, 101, 97, 116], [108, 105, 103, 104, 116], [100, 117, 108, 108], [103, 111, 101, 115], [115, 111, 114, 101], [119, 105, 116, 104], [104, 111, 117, 114], [115, 116, 101, 112], [104, 101, 108, 100], [110, 111, 116], [111, 114], [97, 110, 100], [104, 117, 114, 116, 115], [110, 111, 32, 115, 117, 99, 104, 32, 99, 111, 117, 110, 116], [110, 111, 32, 115, 117, 99, 104, 32, 102, 105, 103, 117, 114, 101], [110, 111, 32, 115, 117, 99, 104, 32, 116, 104, 105, 110, 103, 32, 111, 102, 32, 97, 32, 102, 105, 103, 117, 114, 101], [110, 111, 32, 115, 117, 99, 104, 32, 99, 101, 108, 108], [110, 111, 32, 115, 117, 99, 104, 32, 116, 104, 105, 110, 103, 32, 111, 102, 32, 97, 32, 99, 101, 108, 108], [110, 111, 32, 115, 117, 99, 104, 32, 116, 104, 105, 110, 103, 32, 116, 111, 32, 97, 115, 107], [110, 111, 116, 32, 115, 111, 32, 109, 97, 110, 121], [98, 111, 116, 104, 32, 97, 114, 101, 32, 111, 110, 101]]
def zxt (k : Nat) : List Nat := ztx.getD k []
def zx_269 (k : Nat) : Option Int32 := some (Int32.ofNat (zxt k).length)
def zx_270 (k : Nat) (i : Int32) : Option Int32 := zbnd i (zxt k).length (some (Int32.ofNat ((zxt k).getD i.toNatClampNeg 0)))
def zx_271 (k : Nat) (c : Int32) : Option Int32 := some (if (zxt k).any (fun b => c == Int32.ofNat b) then Int32.ofNat ((zxt k).findIdx (fun b => c == Int32.ofNat b)) else -1)
/-- what the three methods of a text do -/
def zext : pCall := fun j as S Q => match as with
  | [.retAddr k] => j = 269 ∧ k < 26 ∧ zwp (zx_269 k) (fun r => Q (.inl (some (.int r))) S)
  | [.retAddr k, .int i] => k < 26 ∧ ((j = 270 ∧ zwp (zx_270 k i) (fun r => Q (.inl (some (.int r))) S)) ∨ (j = 271 ∧ zwp (zx_271 k i) (fun r => Q (.inl (some (.int r))) S)))
  | _ => False
theorem zext_m : ∀ j as S (Q Q' : pQ), (∀ o S, Q o S → Q' o S) → zext j as S Q → zext j as S Q' := by
  intro j as S Q Q' hq h
  match as, h with
  | [.retAddr k], h => exact ⟨h.1, h.2.1, zwp_mono h.2.2 (fun r hr => hq _ _ hr)⟩
  | [.retAddr k, .int i], h =>
    refine ⟨h.1, ?_⟩
    rcases h.2 with h | h
    · exact Or.inl ⟨h.1, zwp_mono h.2 (fun r hr => hq _ _ hr)⟩
    · exact Or.inr ⟨h.1, zwp_mono h.2 (fun r hr => hq _ _ hr)⟩
theorem zx_call {d j : Nat} {as : List Value} {S : pS} {Q : pQ} (hM : M j = none) (hd : 6 ≤ d) (h : zext j as S Q) : pm_call M cost zext d j as S Q := by
  obtain ⟨d, rfl⟩ := zd1 hd rfl
  unfold pm_call
  rw [hM]
  exact ⟨by omega, h⟩
theorem zmt_269 : M 269 = none := by rfl
theorem zmt_270 : M 270 = none := by rfl
theorem zmt_271 : M 271 = none := by rfl
theorem okx_269 {d k p q : Nat} {I : pI} {J : pJ} {Q : pQ} (hd : 6 ≤ d) (hk : k < 26) (h : zwp (zx_269 k) (fun r => Q (.inl (some (.int r))) (zS p q I [] J []))) : pm_call M cost zext d 269 [.retAddr k] (pm_st 108 (shp p q) I J) Q := zx_call zmt_269 hd ⟨rfl, hk, h⟩
theorem okx_270 {d k p q : Nat} {i : Int32} {I : pI} {J : pJ} {Q : pQ} (hd : 6 ≤ d) (hk : k < 26) (h : zwp (zx_270 k i) (fun r => Q (.inl (some (.int r))) (zS p q I [] J []))) : pm_call M cost zext d 270 [.retAddr k, .int i] (pm_st 108 (shp p q) I J) Q := zx_call zmt_270 hd ⟨hk, Or.inl ⟨rfl, h⟩⟩
theorem okx_271 {d k p q : Nat} {i : Int32} {I : pI} {J : pJ} {Q : pQ} (hd : 6 ≤ d) (hk : k < 26) (h : zwp (zx_271 k i) (fun r => Q (.inl (some (.int r))) (zS p q I [] J []))) : pm_call M cost zext d 271 [.retAddr k, .int i] (pm_st 108 (shp p q) I J) Q := zx_call zmt_271 hd ⟨hk, Or.inr ⟨rfl, h⟩⟩
theorem zki_m8 : Int32.ofInt (-8) = (-8 : Int32) := by decide +kernel
theorem zki_m1 : Int32.ofInt (-1) = (-1 : Int32) := by decide +kernel
theorem zki_0 : Int32.ofInt (0) = (0 : Int32) := by decide +kernel
theorem zki_1 : Int32.ofInt (1) = (1 : Int32) := by decide +kernel
theorem zki_2 : Int32.ofInt (2) = (2 : Int32) := by decide +kernel
theorem zki_3 : Int32.ofInt (3) = (3 : Int32) := by decide +kernel
theorem zki_4 : Int32.ofInt (4) = (4 : Int32) := by decide +kernel
theorem zki_5 : Int32.ofInt (5) = (5 : Int32) := by decide +kernel
theorem zkb_m20 : (Int8.ofInt (-20)).toInt32 = (-20 : Int32) := by decide +kernel
theorem zkb_m19 : (Int8.ofInt (-19)).toInt32 = (-19 : Int32) := by decide +kernel
theorem zkb_m18 : (Int8.ofInt (-18)).toInt32 = (-18 : Int32) := by decide +kernel
theorem zkb_m17 : (Int8.ofInt (-17)).toInt32 = (-17 : Int32) := by decide +kernel
theorem zkb_m16 : (Int8.ofInt (-16)).toInt32 = (-16 : Int32) := by decide +kernel
theorem zkb_m15 : (Int8.ofInt (-15)).toInt32 = (-15 : Int32) := by decide +kernel
theorem zkb_m14 : (Int8.ofInt (-14)).toInt32 = (-14 : Int32) := by decide +kernel
theorem zkb_m13 : (Int8.ofInt (-13)).toInt32 = (-13 : Int32) := by decide +kernel
theorem zkb_m12 : (Int8.ofInt (-12)).toInt32 = (-12 : Int32) := by decide +kernel
theorem zkb_m11 : (Int8.ofInt (-11)).toInt32 = (-11 : Int32) := by decide +kernel
theorem zkb_m6 : (Int8.ofInt (-6)).toInt32 = (-6 : Int32) := by decide +kernel
theorem zkb_6 : (Int8.ofInt (6)).toInt32 = (6 : Int32) := by decide +kernel
theorem zkb_7 : (Int8.ofInt (7)).toInt32 = (7 : Int32) := by decide +kernel
theorem zkb_8 : (Int8.ofInt (8)).toInt32 = (8 : Int32) := by decide +kernel
theorem zkb_9 : (Int8.ofInt (9)).toInt32 = (9 : Int32) := by decide +kernel
theorem zkb_10 : (Int8.ofInt (10)).toInt32 = (10 : Int32) := by decide +kernel
theorem zkb_11 : (Int8.ofInt (11)).toInt32 = (11 : Int32) := by decide +kernel
theorem zkb_12 : (Int8.ofInt (12)).toInt32 = (12 : Int32) := by decide +kernel
theorem zkb_13 : (Int8.ofInt (13)).toInt32 = (13 : Int32) := by decide +kernel
theorem zkb_14 : (Int8.ofInt (14)).toInt32 = (14 : Int32) := by decide +kernel
theorem zkb_15 : (Int8.ofInt (15)).toInt32 = (15 : Int32) := by decide +kernel
theorem zkb_16 : (Int8.ofInt (16)).toInt32 = (16 : Int32) := by decide +kernel
theorem zkb_17 : (Int8.ofInt (17)).toInt32 = (17 : Int32) := by decide +kernel
theorem zkb_20 : (Int8.ofInt (20)).toInt32 = (20 : Int32) := by decide +kernel
theorem zkb_24 : (Int8.ofInt (24)).toInt32 = (24 : Int32) := by decide +kernel
theorem zkb_25 : (Int8.ofInt (25)).toInt32 = (25 : Int32) := by decide +kernel
theorem zkb_28 : (Int8.ofInt (28)).toInt32 = (28 : Int32) := by decide +kernel
theorem zkb_32 : (Int8.ofInt (32)).toInt32 = (32 : Int32) := by decide +kernel
theorem zkb_33 : (Int8.ofInt (33)).toInt32 = (33 : Int32) := by decide +kernel
theorem zkb_36 : (Int8.ofInt (36)).toInt32 = (36 : Int32) := by decide +kernel
theorem zkb_40 : (Int8.ofInt (40)).toInt32 = (40 : Int32) := by decide +kernel
theorem zkb_41 : (Int8.ofInt (41)).toInt32 = (41 : Int32) := by decide +kernel
theorem zkb_42 : (Int8.ofInt (42)).toInt32 = (42 : Int32) := by decide +kernel
theorem zkb_43 : (Int8.ofInt (43)).toInt32 = (43 : Int32) := by decide +kernel
theorem zkb_45 : (Int8.ofInt (45)).toInt32 = (45 : Int32) := by decide +kernel
theorem zkb_47 : (Int8.ofInt (47)).toInt32 = (47 : Int32) := by decide +kernel
theorem zkb_48 : (Int8.ofInt (48)).toInt32 = (48 : Int32) := by decide +kernel
theorem zkb_57 : (Int8.ofInt (57)).toInt32 = (57 : Int32) := by decide +kernel
theorem zkb_59 : (Int8.ofInt (59)).toInt32 = (59 : Int32) := by decide +kernel
theorem zkb_60 : (Int8.ofInt (60)).toInt32 = (60 : Int32) := by decide +kernel
theorem zkb_61 : (Int8.ofInt (61)).toInt32 = (61 : Int32) := by decide +kernel
theorem zkb_63 : (Int8.ofInt (63)).toInt32 = (63 : Int32) := by decide +kernel
theorem zkb_69 : (Int8.ofInt (69)).toInt32 = (69 : Int32) := by decide +kernel
theorem zkb_70 : (Int8.ofInt (70)).toInt32 = (70 : Int32) := by decide +kernel
theorem zkb_71 : (Int8.ofInt (71)).toInt32 = (71 : Int32) := by decide +kernel
theorem zkb_79 : (Int8.ofInt (79)).toInt32 = (79 : Int32) := by decide +kernel
theorem zkb_87 : (Int8.ofInt (87)).toInt32 = (87 : Int32) := by decide +kernel
theorem zkb_95 : (Int8.ofInt (95)).toInt32 = (95 : Int32) := by decide +kernel
theorem zkb_96 : (Int8.ofInt (96)).toInt32 = (96 : Int32) := by decide +kernel
theorem zkb_97 : (Int8.ofInt (97)).toInt32 = (97 : Int32) := by decide +kernel
theorem zkb_98 : (Int8.ofInt (98)).toInt32 = (98 : Int32) := by decide +kernel
theorem zkb_99 : (Int8.ofInt (99)).toInt32 = (99 : Int32) := by decide +kernel
theorem zkb_100 : (Int8.ofInt (100)).toInt32 = (100 : Int32) := by decide +kernel
theorem zkb_101 : (Int8.ofInt (101)).toInt32 = (101 : Int32) := by decide +kernel
theorem zkb_102 : (Int8.ofInt (102)).toInt32 = (102 : Int32) := by decide +kernel
theorem zkb_103 : (Int8.ofInt (103)).toInt32 = (103 : Int32) := by decide +kernel
theorem zkb_104 : (Int8.ofInt (104)).toInt32 = (104 : Int32) := by decide +kernel
theorem zkb_105 : (Int8.ofInt (105)).toInt32 = (105 : Int32) := by decide +kernel
theorem zkb_108 : (Int8.ofInt (108)).toInt32 = (108 : Int32) := by decide +kernel
theorem zkb_110 : (Int8.ofInt (110)).toInt32 = (110 : Int32) := by decide +kernel
theorem zkb_111 : (Int8.ofInt (111)).toInt32 = (111 : Int32) := by decide +kernel
theorem zkb_112 : (Int8.ofInt (112)).toInt32 = (112 : Int32) := by decide +kernel
theorem zkb_114 : (Int8.ofInt (114)).toInt32 = (114 : Int32) := by decide +kernel
theorem zkb_115 : (Int8.ofInt (115)).toInt32 = (115 : Int32) := by decide +kernel
theorem zkb_116 : (Int8.ofInt (116)).toInt32 = (116 : Int32) := by decide +kernel
theorem zkb_117 : (Int8.ofInt (117)).toInt32 = (117 : Int32) := by decide +kernel
theorem zkb_119 : (Int8.ofInt (119)).toInt32 = (119 : Int32) := by decide +kernel
theorem zkb_122 : (Int8.ofInt (122)).toInt32 = (122 : Int32) := by decide +kernel
theorem zkb_127 : (Int8.ofInt (127)).toInt32 = (127 : Int32) := by decide +kernel
theorem zks_200 : (Int16.ofInt (200)).toInt32 = (200 : Int32) := by decide +kernel
theorem zks_255 : (Int16.ofInt (255)).toInt32 = (255 : Int32) := by decide +kernel
theorem zks_256 : (Int16.ofInt (256)).toInt32 = (256 : Int32) := by decide +kernel
theorem zks_700 : (Int16.ofInt (700)).toInt32 = (700 : Int32) := by decide +kernel
theorem zks_1000 : (Int16.ofInt (1000)).toInt32 = (1000 : Int32) := by decide +kernel
theorem zks_1120 : (Int16.ofInt (1120)).toInt32 = (1120 : Int32) := by decide +kernel
theorem zks_2800 : (Int16.ofInt (2800)).toInt32 = (2800 : Int32) := by decide +kernel
theorem zks_9999 : (Int16.ofInt (9999)).toInt32 = (9999 : Int32) := by decide +kernel
theorem zks_12345 : (Int16.ofInt (12345)).toInt32 = (12345 : Int32) := by decide +kernel
theorem zks_32767 : (Int16.ofInt (32767)).toInt32 = (32767 : Int32) := by decide +kernel
theorem zkl_0 : Int64.ofNat ((0 : Fin 2) : Nat) = (0 : Int64) := by decide +kernel
theorem zkl_1 : Int64.ofNat ((1 : Fin 2) : Nat) = (1 : Int64) := by decide +kernel
theorem zkn_8 : Int32.ofNat 8 = (8 : Int32) := by decide +kernel
theorem zkn_24 : Int32.ofNat 24 = (24 : Int32) := by decide +kernel
theorem zkn_36 : Int32.ofNat 36 = (36 : Int32) := by decide +kernel
theorem zkn_48 : Int32.ofNat 48 = (48 : Int32) := by decide +kernel
theorem zkn_64 : Int32.ofNat 64 = (64 : Int32) := by decide +kernel
theorem zkn_128 : Int32.ofNat 128 = (128 : Int32) := by decide +kernel
theorem zkn_1120 : Int32.ofNat 1120 = (1120 : Int32) := by decide +kernel
theorem zkn_1400 : Int32.ofNat 1400 = (1400 : Int32) := by decide +kernel
theorem zkn_2304 : Int32.ofNat 2304 = (2304 : Int32) := by decide +kernel
theorem zkn_2800 : Int32.ofNat 2800 = (2800 : Int32) := by decide +kernel
theorem zft_0_1 : pm_ft 0 1 = some (.int, false) := by decide +kernel
theorem zft_0_2 : pm_ft 0 2 = some (.int, false) := by decide +kernel
theorem zft_0_3 : pm_ft 0 3 = some (.int, false) := by decide +kernel
theorem zft_1_2 : pm_ft 1 2 = some (.int, false) := by decide +kernel
theorem zft_1_3 : pm_ft 1 3 = some (.int, false) := by decide +kernel
theorem zft_3_0 : pm_ft 3 0 = some (.int, false) := by decide +kernel
theorem zft_3_1 : pm_ft 3 1 = some (.int, false) := by decide +kernel
theorem zft_3_2 : pm_ft 3 2 = some (.long, false) := by decide +kernel
theorem zft_3_3 : pm_ft 3 3 = some (.int, false) := by decide +kernel
theorem zft_3_7 : pm_ft 3 7 = some (.int, false) := by decide +kernel
theorem zft_3_9 : pm_ft 3 9 = some (.int, false) := by decide +kernel
theorem zft_3_11 : pm_ft 3 11 = some (.boolean, false) := by decide +kernel
theorem zft_3_12 : pm_ft 3 12 = some (.int, false) := by decide +kernel
theorem zft_4_1 : pm_ft 4 1 = some (.int, false) := by decide +kernel
theorem zft_5_2 : pm_ft 5 2 = some (.int, false) := by decide +kernel
theorem zft_6_1 : pm_ft 6 1 = some (.int, false) := by decide +kernel
theorem zft_6_2 : pm_ft 6 2 = some (.int, false) := by decide +kernel
theorem zft_6_3 : pm_ft 6 3 = some (.int, false) := by decide +kernel
theorem zft_6_4 : pm_ft 6 4 = some (.boolean, false) := by decide +kernel
theorem zft_6_5 : pm_ft 6 5 = some (.boolean, false) := by decide +kernel
theorem zft_7_3 : pm_ft 7 3 = some (.int, false) := by decide +kernel
theorem zft_7_4 : pm_ft 7 4 = some (.int, false) := by decide +kernel
theorem zft_8_0 : pm_ft 8 0 = some (.int, false) := by decide +kernel
theorem zft_8_1 : pm_ft 8 1 = some (.int, false) := by decide +kernel
theorem zft_8_2 : pm_ft 8 2 = some (.long, false) := by decide +kernel
theorem zft_8_3 : pm_ft 8 3 = some (.int, false) := by decide +kernel
theorem zft_9_1 : pm_ft 9 1 = some (.int, false) := by decide +kernel
theorem zft_9_2 : pm_ft 9 2 = some (.int, false) := by decide +kernel
theorem zft_9_3 : pm_ft 9 3 = some (.int, false) := by decide +kernel
theorem zft_9_4 : pm_ft 9 4 = some (.int, false) := by decide +kernel
theorem zft_9_5 : pm_ft 9 5 = some (.int, false) := by decide +kernel
theorem zft_9_6 : pm_ft 9 6 = some (.int, false) := by decide +kernel
theorem zft_11_2 : pm_ft 11 2 = some (.int, false) := by decide +kernel
theorem zft_11_8 : pm_ft 11 8 = some (.boolean, false) := by decide +kernel
theorem zft_11_19 : pm_ft 11 19 = some (.int, false) := by decide +kernel
theorem zft_12_0 : pm_ft 12 0 = some (.int, false) := by decide +kernel
theorem zft_12_1 : pm_ft 12 1 = some (.int, false) := by decide +kernel
theorem zft_12_2 : pm_ft 12 2 = some (.int, false) := by decide +kernel
theorem zft_12_3 : pm_ft 12 3 = some (.int, false) := by decide +kernel
theorem zft_12_4 : pm_ft 12 4 = some (.int, false) := by decide +kernel
theorem zft_12_5 : pm_ft 12 5 = some (.int, false) := by decide +kernel
theorem zft_12_6 : pm_ft 12 6 = some (.int, false) := by decide +kernel
theorem zft_12_7 : pm_ft 12 7 = some (.int, false) := by decide +kernel
theorem zft_12_8 : pm_ft 12 8 = some (.int, false) := by decide +kernel
theorem zft_12_15 : pm_ft 12 15 = some (.int, false) := by decide +kernel
theorem zft_12_16 : pm_ft 12 16 = some (.int, false) := by decide +kernel
theorem zft_12_17 : pm_ft 12 17 = some (.int, false) := by decide +kernel
theorem zft_12_19 : pm_ft 12 19 = some (.int, false) := by decide +kernel
theorem zft_12_20 : pm_ft 12 20 = some (.int, false) := by decide +kernel
theorem zft_12_21 : pm_ft 12 21 = some (.int, false) := by decide +kernel
theorem zft_12_22 : pm_ft 12 22 = some (.int, false) := by decide +kernel
theorem zft_12_23 : pm_ft 12 23 = some (.int, false) := by decide +kernel
theorem zft_12_24 : pm_ft 12 24 = some (.int, false) := by decide +kernel
theorem zft_12_25 : pm_ft 12 25 = some (.int, false) := by decide +kernel
theorem zft_12_26 : pm_ft 12 26 = some (.long, false) := by decide +kernel
theorem zft_12_27 : pm_ft 12 27 = some (.int, false) := by decide +kernel
theorem zft_12_28 : pm_ft 12 28 = some (.int, false) := by decide +kernel
theorem zft_12_29 : pm_ft 12 29 = some (.int, false) := by decide +kernel
theorem zft_12_30 : pm_ft 12 30 = some (.int, false) := by decide +kernel
theorem zft_12_31 : pm_ft 12 31 = some (.int, false) := by decide +kernel
theorem zft_12_32 : pm_ft 12 32 = some (.int, false) := by decide +kernel
theorem zft_12_33 : pm_ft 12 33 = some (.int, false) := by decide +kernel
theorem zft_12_34 : pm_ft 12 34 = some (.int, false) := by decide +kernel
theorem zft_12_35 : pm_ft 12 35 = some (.int, false) := by decide +kernel
theorem zft_12_36 : pm_ft 12 36 = some (.int, false) := by decide +kernel
theorem zft_12_37 : pm_ft 12 37 = some (.int, false) := by decide +kernel
theorem zft_12_38 : pm_ft 12 38 = some (.int, false) := by decide +kernel
theorem zft_12_39 : pm_ft 12 39 = some (.int, false) := by decide +kernel
theorem zft_12_50 : pm_ft 12 50 = some (.int, false) := by decide +kernel
theorem zft_12_53 : pm_ft 12 53 = some (.int, false) := by decide +kernel
theorem zft_12_60 : pm_ft 12 60 = some (.int, false) := by decide +kernel
theorem zft_12_64 : pm_ft 12 64 = some (.int, false) := by decide +kernel
theorem zft_12_65 : pm_ft 12 65 = some (.boolean, false) := by decide +kernel
theorem zft_12_66 : pm_ft 12 66 = some (.int, false) := by decide +kernel
theorem zft_12_67 : pm_ft 12 67 = some (.int, false) := by decide +kernel
theorem zco_0 : cost 0 = (4, 1144, true, true) := by rfl
theorem zmt_0 : M 0 = some (C_X0_init, 1) := by rfl
theorem zco_1 : cost 1 = (0, 0, false, false) := by rfl
theorem zmt_1 : M 1 = some (C_X0_clearActs, 1) := by rfl
theorem zco_2 : cost 2 = (0, 0, false, false) := by rfl
theorem zmt_2 : M 2 = some (C_X0_clearNotes, 1) := by rfl
theorem zco_3 : cost 3 = (0, 0, false, false) := by rfl
theorem zmt_3 : M 3 = some (C_X0_keep, 2) := by rfl
theorem zco_4 : cost 4 = (0, 0, false, false) := by rfl
theorem zmt_4 : M 4 = some (C_X0_takeBack, 2) := by rfl
theorem zco_5 : cost 5 = (0, 0, false, false) := by rfl
theorem zmt_5 : M 5 = some (C_X0_add, 4) := by rfl
theorem zco_6 : cost 6 = (0, 0, false, false) := by rfl
theorem zmt_6 : M 6 = some (C_X0_copyFrom, 2) := by rfl
theorem zco_7 : cost 7 = (0, 0, false, false) := by rfl
theorem zmt_7 : M 7 = some (C_X0_agrees, 4) := by rfl
theorem zco_8 : cost 8 = (6, 48, true, true) := by rfl
theorem zmt_8 : M 8 = some (C_X1_init, 1) := by rfl
theorem zco_9 : cost 9 = (0, 0, false, false) := by rfl
theorem zmt_9 : M 9 = some (C_X1_search, 7) := by rfl
theorem zco_10 : cost 10 = (0, 0, false, false) := by rfl
theorem zmt_10 : M 10 = some (C_X1_holdsAll, 6) := by rfl
theorem zco_11 : cost 11 = (0, 0, false, false) := by rfl
theorem zmt_11 : M 11 = some (C_X1_addPlaces, 4) := by rfl
theorem zco_12 : cost 12 = (1, 6, true, true) := by rfl
theorem zmt_12 : M 12 = some (C_X2_init, 1) := by rfl
theorem zco_13 : cost 13 = (0, 0, false, false) := by rfl
theorem zmt_13 : M 13 = some (C_X2_passHours, 5) := by rfl
theorem zco_14 : cost 14 = (0, 0, false, false) := by rfl
theorem zmt_14 : M 14 = some (C_X2_passHour, 5) := by rfl
theorem zco_15 : cost 15 = (0, 0, false, false) := by rfl
theorem zmt_15 : M 15 = some (C_X2_hurt, 5) := by rfl
theorem zco_16 : cost 16 = (0, 0, false, false) := by rfl
theorem zmt_16 : M 16 = some (C_X2_wantsToGo, 4) := by rfl
theorem zco_17 : cost 17 = (0, 0, false, false) := by rfl
theorem zmt_17 : M 17 = some (C_X2_go, 5) := by rfl
theorem zco_18 : cost 18 = (0, 0, false, false) := by rfl
theorem zmt_18 : M 18 = some (C_X2_setValues, 4) := by rfl
theorem zco_19 : cost 19 = (11, 1598, true, true) := by rfl
theorem zmt_19 : M 19 = some (C_X3_init, 1) := by rfl
theorem zco_20 : cost 20 = (0, 0, false, false) := by rfl
theorem zmt_20 : M 20 = some (C_X3_clear, 1) := by rfl
theorem zco_21 : cost 21 = (0, 0, false, false) := by rfl
theorem zmt_21 : M 21 = some (C_X3_cells, 1) := by rfl
theorem zco_22 : cost 22 = (0, 0, false, false) := by rfl
theorem zmt_22 : M 22 = some (C_X3_lightOf, 2) := by rfl
theorem zco_23 : cost 23 = (0, 0, false, false) := by rfl
theorem zmt_23 : M 23 = some (C_X3_isDull, 2) := by rfl
theorem zco_24 : cost 24 = (0, 0, false, false) := by rfl
theorem zmt_24 : M 24 = some (C_X3_stepOf, 4) := by rfl
theorem zco_25 : cost 25 = (0, 0, false, false) := by rfl
theorem zmt_25 : M 25 = some (C_X3_seatsAt, 4) := by rfl
theorem zco_26 : cost 26 = (0, 0, false, false) := by rfl
theorem zmt_26 : M 26 = some (C_X3_isWall, 2) := by rfl
theorem zco_27 : cost 27 = (0, 0, false, false) := by rfl
theorem zmt_27 : M 27 = some (C_X3_isStart, 3) := by rfl
theorem zco_28 : cost 28 = (0, 0, false, false) := by rfl
theorem zmt_28 : M 28 = some (C_X3_beside, 4) := by rfl
theorem zco_29 : cost 29 = (2, 134, true, true) := by rfl
theorem zmt_29 : M 29 = some (C_X4_init, 1) := by rfl
theorem zco_30 : cost 30 = (0, 0, false, false) := by rfl
theorem zmt_30 : M 30 = some (C_X4_read, 6) := by rfl
theorem zco_31 : cost 31 = (0, 0, false, false) := by rfl
theorem zmt_31 : M 31 = some (C_X4_readTable, 4) := by rfl
theorem zco_32 : cost 32 = (0, 0, false, false) := by rfl
theorem zmt_32 : M 32 = some (C_X4_readStop, 1) := by rfl
theorem zco_33 : cost 33 = (0, 0, false, false) := by rfl
theorem zmt_33 : M 33 = some (C_X4_readLine, 3) := by rfl
theorem zco_34 : cost 34 = (0, 0, false, false) := by rfl
theorem zmt_34 : M 34 = some (C_X4_cellFault, 3) := by rfl
theorem zco_35 : cost 35 = (0, 0, false, false) := by rfl
theorem zmt_35 : M 35 = some (C_X4_readWall, 3) := by rfl
theorem zco_36 : cost 36 = (0, 0, false, false) := by rfl
theorem zmt_36 : M 36 = some (C_X4_readFigure, 5) := by rfl
theorem zco_37 : cost 37 = (0, 0, false, false) := by rfl
theorem zmt_37 : M 37 = some (C_X4_readSeat, 3) := by rfl
theorem zco_38 : cost 38 = (0, 0, false, false) := by rfl
theorem zmt_38 : M 38 = some (C_X4_readLight, 4) := by rfl
theorem zco_39 : cost 39 = (0, 0, false, false) := by rfl
theorem zmt_39 : M 39 = some (C_X4_readRow, 6) := by rfl
theorem zco_40 : cost 40 = (0, 0, false, false) := by rfl
theorem zmt_40 : M 40 = some (C_X4_readDull, 3) := by rfl
theorem zco_41 : cost 41 = (2, 748, true, true) := by rfl
theorem zmt_41 : M 41 = some (C_X5_init, 1) := by rfl
theorem zco_42 : cost 42 = (0, 0, false, false) := by rfl
theorem zmt_42 : M 42 = some (C_X5_clear, 1) := by rfl
theorem zco_43 : cost 43 = (0, 0, false, false) := by rfl
theorem zmt_43 : M 43 = some (C_X5_isTold, 1) := by rfl
theorem zco_44 : cost 44 = (0, 0, false, false) := by rfl
theorem zmt_44 : M 44 = some (C_X5_add, 2) := by rfl
theorem zco_45 : cost 45 = (0, 0, false, false) := by rfl
theorem zmt_45 : M 45 = some (C_X5_value, 5) := by rfl
theorem zco_46 : cost 46 = (0, 0, false, false) := by rfl
theorem zmt_46 : M 46 = some (C_X5_join, 3) := by rfl
theorem zco_47 : cost 47 = (1, 128, true, true) := by rfl
theorem zmt_47 : M 47 = some (C_X6_init, 1) := by rfl
theorem zco_48 : cost 48 = (0, 0, false, false) := by rfl
theorem zmt_48 : M 48 = some (C_X6_read, 6) := by rfl
theorem zco_49 : cost 49 = (0, 0, false, false) := by rfl
theorem zmt_49 : M 49 = some (C_X6_isEnd, 2) := by rfl
theorem zco_50 : cost 50 = (0, 0, false, false) := by rfl
theorem zmt_50 : M 50 = some (C_X6_beginPart, 2) := by rfl
theorem zco_51 : cost 51 = (0, 0, false, false) := by rfl
theorem zmt_51 : M 51 = some (C_X6_readPart, 5) := by rfl
theorem zco_52 : cost 52 = (0, 0, false, false) := by rfl
theorem zmt_52 : M 52 = some (C_X6_readNumber, 4) := by rfl
theorem zco_53 : cost 53 = (0, 0, false, false) := by rfl
theorem zmt_53 : M 53 = some (C_X6_readWord, 4) := by rfl
theorem zco_54 : cost 54 = (0, 0, false, false) := by rfl
theorem zmt_54 : M 54 = some (C_X6_valueOf, 2) := by rfl
theorem zco_55 : cost 55 = (0, 0, false, false) := by rfl
theorem zmt_55 : M 55 = some (C_X6_readOperator, 6) := by rfl
theorem zco_56 : cost 56 = (0, 0, false, false) := by rfl
theorem zmt_56 : M 56 = some (C_X6_operatorOf, 1) := by rfl
theorem zco_57 : cost 57 = (0, 0, false, false) := by rfl
theorem zmt_57 : M 57 = some (C_X6_rankOf, 1) := by rfl
theorem zco_58 : cost 58 = (0, 0, false, false) := by rfl
theorem zmt_58 : M 58 = some (C_X6_push, 2) := by rfl
theorem zco_59 : cost 59 = (0, 0, false, false) := by rfl
theorem zmt_59 : M 59 = some (C_X6_release, 3) := by rfl
theorem zco_60 : cost 60 = (3, 2376, true, true) := by rfl
theorem zmt_60 : M 60 = some (C_X7_init, 1) := by rfl
theorem zco_61 : cost 61 = (0, 0, false, false) := by rfl
theorem zmt_61 : M 61 = some (C_X7_place, 6) := by rfl
theorem zco_62 : cost 62 = (0, 0, false, false) := by rfl
theorem zmt_62 : M 62 = some (C_X7_measureAll, 6) := by rfl
theorem zco_63 : cost 63 = (0, 0, false, false) := by rfl
theorem zmt_63 : M 63 = some (C_X7_bestFrom, 6) := by rfl
theorem zco_64 : cost 64 = (0, 0, false, false) := by rfl
theorem zmt_64 : M 64 = some (C_X7_worthAt, 5) := by rfl
theorem zco_65 : cost 65 = (0, 0, false, false) := by rfl
theorem zmt_65 : M 65 = some (C_X7_choose, 5) := by rfl
theorem zco_66 : cost 66 = (4, 32, true, true) := by rfl
theorem zmt_66 : M 66 = some (C_X8_init, 1) := by rfl
theorem zco_67 : cost 67 = (0, 0, false, false) := by rfl
theorem zmt_67 : M 67 = some (C_X8_begin, 2) := by rfl
theorem zco_68 : cost 68 = (0, 0, false, false) := by rfl
theorem zmt_68 : M 68 = some (C_X8_copyFrom, 2) := by rfl
theorem zco_69 : cost 69 = (0, 0, false, false) := by rfl
theorem zmt_69 : M 69 = some (C_X8_saveTo, 3) := by rfl
theorem zco_70 : cost 70 = (0, 0, false, false) := by rfl
theorem zmt_70 : M 70 = some (C_X8_loadFrom, 3) := by rfl
theorem zco_71 : cost 71 = (0, 0, false, false) := by rfl
theorem zmt_71 : M 71 = some (C_X8_isWall, 2) := by rfl
theorem zco_72 : cost 72 = (0, 0, false, false) := by rfl
theorem zmt_72 : M 72 = some (C_X8_figuresAt, 4) := by rfl
theorem zco_73 : cost 73 = (0, 0, false, false) := by rfl
theorem zmt_73 : M 73 = some (C_X8_othersWith, 4) := by rfl
theorem zco_74 : cost 74 = (0, 0, false, false) := by rfl
theorem zmt_74 : M 74 = some (C_X8_aloneBits, 3) := by rfl
theorem zco_75 : cost 75 = (0, 0, false, false) := by rfl
theorem zmt_75 : M 75 = some (C_X8_placedAsBits, 4) := by rfl
theorem zco_76 : cost 76 = (0, 0, false, false) := by rfl
theorem zmt_76 : M 76 = some (C_X8_isPlacedAs, 2) := by rfl
theorem zco_77 : cost 77 = (0, 0, false, false) := by rfl
theorem zmt_77 : M 77 = some (C_X8_places, 4) := by rfl
theorem zco_78 : cost 78 = (0, 0, false, false) := by rfl
theorem zmt_78 : M 78 = some (C_X8_soreOfAll, 3) := by rfl
theorem zco_79 : cost 79 = (0, 0, false, false) := by rfl
theorem zmt_79 : M 79 = some (C_X8_heldBits, 3) := by rfl
theorem zco_80 : cost 80 = (1, 700, true, true) := by rfl
theorem zmt_80 : M 80 = some (C_X9_init, 1) := by rfl
theorem zco_81 : cost 81 = (0, 0, false, false) := by rfl
theorem zmt_81 : M 81 = some (C_X9_add, 3) := by rfl
theorem zco_82 : cost 82 = (0, 0, false, false) := by rfl
theorem zmt_82 : M 82 = some (C_X9_begin, 2) := by rfl
theorem zco_83 : cost 83 = (0, 0, false, false) := by rfl
theorem zmt_83 : M 83 = some (C_X9_advance, 2) := by rfl
theorem zco_84 : cost 84 = (0, 0, false, false) := by rfl
theorem zmt_84 : M 84 = some (C_X9_readNumber, 1) := by rfl
theorem zco_85 : cost 85 = (0, 0, false, false) := by rfl
theorem zmt_85 : M 85 = some (C_X9_isLetter, 1) := by rfl
theorem zco_86 : cost 86 = (0, 0, false, false) := by rfl
theorem zmt_86 : M 86 = some (C_X9_isDigit, 1) := by rfl
theorem zco_87 : cost 87 = (0, 0, false, false) := by rfl
theorem zmt_87 : M 87 = some (C_X9_numberFault, 3) := by rfl
theorem zco_88 : cost 88 = (0, 0, false, false) := by rfl
theorem zmt_88 : M 88 = some (C_X9_isSign, 2) := by rfl
theorem zco_89 : cost 89 = (0, 0, false, false) := by rfl
theorem zmt_89 : M 89 = some (C_X9_sign, 1) := by rfl
theorem zco_90 : cost 90 = (0, 0, false, false) := by rfl
theorem zmt_90 : M 90 = some (C_X9_isWord, 3) := by rfl
theorem zco_91 : cost 91 = (2, 72, true, true) := by rfl
theorem zmt_91 : M 91 = some (C_X10_init, 1) := by rfl
theorem zco_92 : cost 92 = (0, 0, false, false) := by rfl
theorem zmt_92 : M 92 = some (C_X10_measure, 9) := by rfl
theorem zco_93 : cost 93 = (0, 0, false, false) := by rfl
theorem zmt_93 : M 93 = some (C_X10_firstStep, 7) := by rfl
theorem zco_94 : cost 94 = (0, 0, false, false) := by rfl
theorem zmt_94 : M 94 = some (C_X10_parts, 8) := by rfl
theorem zco_95 : cost 95 = (0, 0, false, false) := by rfl
theorem zmt_95 : M 95 = some (C_X10_seenFrom, 8) := by rfl
theorem zco_96 : cost 96 = (74, 9060, true, true) := by rfl
theorem zmt_96 : M 96 = some (C_X11_init, 1) := by rfl
theorem zco_97 : cost 97 = (0, 0, false, false) := by rfl
theorem zmt_97 : M 97 = some (C_X11_feed, 6) := by rfl
theorem zco_98 : cost 98 = (1, 6, false, false) := by rfl
theorem zmt_98 : M 98 = some (C_X11_town, 4) := by rfl
theorem zco_99 : cost 99 = (0, 0, false, false) := by rfl
theorem zmt_99 : M 99 = some (C_X11_fault, 1) := by rfl
theorem zco_100 : cost 100 = (1, 6, false, false) := by rfl
theorem zmt_100 : M 100 = some (C_X11_count, 2) := by rfl
theorem zco_101 : cost 101 = (1, 6, false, false) := by rfl
theorem zmt_101 : M 101 = some (C_X11_figure, 3) := by rfl
theorem zco_102 : cost 102 = (1, 6, false, false) := by rfl
theorem zmt_102 : M 102 = some (C_X11_cell, 3) := by rfl
theorem zco_103 : cost 103 = (0, 0, false, false) := by rfl
theorem zmt_103 : M 103 = some (C_X11_hours, 2) := by rfl
theorem zco_104 : cost 104 = (1, 6, false, false) := by rfl
theorem zmt_104 : M 104 = some (C_X11_stop, 3) := by rfl
theorem zco_105 : cost 105 = (1, 6, false, false) := by rfl
theorem zmt_105 : M 105 = some (C_X11_lift, 4) := by rfl
theorem zco_106 : cost 106 = (1, 6, false, false) := by rfl
theorem zmt_106 : M 106 = some (C_X11_brush, 3) := by rfl
theorem zco_107 : cost 107 = (1, 6, false, false) := by rfl
theorem zmt_107 : M 107 = some (C_X11_wall, 3) := by rfl
theorem zco_108 : cost 108 = (0, 0, false, false) := by rfl
theorem zmt_108 : M 108 = some (C_X11_undo, 1) := by rfl
theorem zco_109 : cost 109 = (1, 6, false, false) := by rfl
theorem zmt_109 : M 109 = some (C_X11_then, 4) := by rfl
theorem zco_110 : cost 110 = (1, 6, false, false) := by rfl
theorem zmt_110 : M 110 = some (C_X11_comes, 4) := by rfl
theorem zco_111 : cost 111 = (1, 6, false, false) := by rfl
theorem zmt_111 : M 111 = some (C_X11_meet, 4) := by rfl
theorem zco_112 : cost 112 = (1, 6, false, false) := by rfl
theorem zmt_112 : M 112 = some (C_X11_crowd, 7) := by rfl
theorem zco_113 : cost 113 = (0, 0, false, false) := by rfl
theorem zmt_113 : M 113 = some (C_X11_round, 2) := by rfl
theorem zco_114 : cost 114 = (1, 6, false, false) := by rfl
theorem zmt_114 : M 114 = some (C_X11_spread, 6) := by rfl
theorem zco_115 : cost 115 = (1, 6, false, false) := by rfl
theorem zmt_115 : M 115 = some (C_X11_way, 4) := by rfl
theorem zco_116 : cost 116 = (1, 6, false, false) := by rfl
theorem zmt_116 : M 116 = some (C_X11_toStop, 5) := by rfl
theorem zco_117 : cost 117 = (1, 6, false, false) := by rfl
theorem zmt_117 : M 117 = some (C_X11_toThin, 4) := by rfl
theorem zco_118 : cost 118 = (1, 6, false, false) := by rfl
theorem zmt_118 : M 118 = some (C_X11_seats, 2) := by rfl
theorem zco_119 : cost 119 = (1, 6, false, false) := by rfl
theorem zmt_119 : M 119 = some (C_X11_seat, 2) := by rfl
theorem zco_120 : cost 120 = (1, 6, false, false) := by rfl
theorem zmt_120 : M 120 = some (C_X11_note, 4) := by rfl
theorem zco_121 : cost 121 = (0, 0, false, false) := by rfl
theorem zmt_121 : M 121 = some (C_X11_forget, 1) := by rfl
theorem zco_122 : cost 122 = (1, 6, false, false) := by rfl
theorem zmt_122 : M 122 = some (C_X11_ahead, 2) := by rfl
theorem zco_123 : cost 123 = (1, 6, false, false) := by rfl
theorem zmt_123 : M 123 = some (C_X11_look, 6) := by rfl
theorem zco_124 : cost 124 = (1, 6, false, false) := by rfl
theorem zmt_124 : M 124 = some (C_X11_clouds, 10) := by rfl
theorem zco_125 : cost 125 = (1, 6, false, false) := by rfl
theorem zmt_125 : M 125 = some (C_X11_game, 7) := by rfl
theorem zco_126 : cost 126 = (1, 6, false, false) := by rfl
theorem zmt_126 : M 126 = some (C_X11_years, 6) := by rfl
theorem zco_127 : cost 127 = (1, 6, false, false) := by rfl
theorem zmt_127 : M 127 = some (C_X11_later, 3) := by rfl
theorem zco_128 : cost 128 = (1, 6, false, false) := by rfl
theorem zmt_128 : M 128 = some (C_X11_together, 6) := by rfl
theorem zco_129 : cost 129 = (1, 6, false, false) := by rfl
theorem zmt_129 : M 129 = some (C_X11_quiet, 5) := by rfl
theorem zco_130 : cost 130 = (1, 6, false, false) := by rfl
theorem zmt_130 : M 130 = some (C_X11_gone, 6) := by rfl
theorem zco_131 : cost 131 = (0, 0, false, false) := by rfl
theorem zmt_131 : M 131 = some (C_X11_image, 1) := by rfl
theorem zco_132 : cost 132 = (0, 0, false, false) := by rfl
theorem zmt_132 : M 132 = some (C_X11_restore, 1) := by rfl
theorem zco_133 : cost 133 = (1, 6, false, false) := by rfl
theorem zmt_133 : M 133 = some (C_X11_checkFigure, 2) := by rfl
theorem zco_134 : cost 134 = (1, 6, false, false) := by rfl
theorem zmt_134 : M 134 = some (C_X11_checkCell, 2) := by rfl
theorem zco_135 : cost 135 = (1, 6, false, false) := by rfl
theorem zmt_135 : M 135 = some (C_X11_checkWhat, 2) := by rfl
theorem zco_136 : cost 136 = (1, 6, false, false) := by rfl
theorem zmt_136 : M 136 = some (C_X11_checkHours, 3) := by rfl
theorem zco_137 : cost 137 = (0, 0, false, false) := by rfl
theorem zmt_137 : M 137 = some (C_X11_refuseAct, 1) := by rfl
theorem zco_138 : cost 138 = (0, 0, false, false) := by rfl
theorem zmt_138 : M 138 = some (C_X11_pay, 2) := by rfl
theorem zco_139 : cost 139 = (0, 0, false, false) := by rfl
theorem zmt_139 : M 139 = some (C_X11_foresee, 2) := by rfl
theorem zco_140 : cost 140 = (0, 0, false, false) := by rfl
theorem zmt_140 : M 140 = some (C_X11_passFuture, 1) := by rfl
theorem zco_141 : cost 141 = (0, 0, false, false) := by rfl
theorem zmt_141 : M 141 = some (C_X11_addMeetings, 2) := by rfl
theorem zco_142 : cost 142 = (0, 0, false, false) := by rfl
theorem zmt_142 : M 142 = some (C_X11_noneMeets, 3) := by rfl
theorem zco_143 : cost 143 = (0, 0, false, false) := by rfl
theorem zmt_143 : M 143 = some (C_X11_play, 7) := by rfl
theorem zco_144 : cost 144 = (0, 0, false, false) := by rfl
theorem zmt_144 : M 144 = some (C_X11_rests, 3) := by rfl
theorem zco_145 : cost 145 = (0, 0, false, false) := by rfl
theorem zmt_145 : M 145 = some (C_X11_draw, 2) := by rfl
theorem zco_146 : cost 146 = (0, 0, false, false) := by rfl
theorem zmt_146 : M 146 = some (C_X11_drawFate, 4) := by rfl
theorem zco_147 : cost 147 = (0, 0, false, false) := by rfl
theorem zmt_147 : M 147 = some (C_X11_busiest, 5) := by rfl
theorem zco_148 : cost 148 = (0, 0, false, false) := by rfl
theorem zmt_148 : M 148 = some (C_X11_sorest, 5) := by rfl
theorem zco_149 : cost 149 = (0, 0, false, false) := by rfl
theorem zmt_149 : M 149 = some (C_X11_alone, 4) := by rfl
theorem zco_150 : cost 150 = (0, 0, false, false) := by rfl
theorem zmt_150 : M 150 = some (C_X11_stuck, 4) := by rfl
theorem zco_151 : cost 151 = (31, 14526, true, true) := by rfl
theorem zmt_151 : M 151 = some (C_X12_init, 1) := by rfl
theorem zco_152 : cost 152 = (0, 0, false, false) := by rfl
theorem zmt_152 : M 152 = some (C_X12_thrown, 1) := by rfl
theorem zco_153 : cost 153 = (0, 0, false, false) := by rfl
theorem zmt_153 : M 153 = some (C_X12_right, 3) := by rfl
theorem zco_154 : cost 154 = (0, 0, false, false) := by rfl
theorem zmt_154 : M 154 = some (C_X12_within, 3) := by rfl
theorem zco_155 : cost 155 = (0, 0, false, false) := by rfl
theorem zmt_155 : M 155 = some (C_X12_bounded, 3) := by rfl
theorem zco_156 : cost 156 = (0, 0, false, false) := by rfl
theorem zmt_156 : M 156 = some (C_X12_lesser, 2) := by rfl
theorem zco_157 : cost 157 = (0, 0, false, false) := by rfl
theorem zmt_157 : M 157 = some (C_X12_copies, 4) := by rfl
theorem zco_158 : cost 158 = (0, 0, false, false) := by rfl
theorem zmt_158 : M 158 = some (C_X12_bits, 3) := by rfl
theorem zco_159 : cost 159 = (0, 0, false, false) := by rfl
theorem zmt_159 : M 159 = some (C_X12_feed, 6) := by rfl
theorem zco_160 : cost 160 = (0, 0, false, false) := by rfl
theorem zmt_160 : M 160 = some (C_X12_lays, 3) := by rfl
theorem zco_161 : cost 161 = (0, 0, false, false) := by rfl
theorem zmt_161 : M 161 = some (C_X12_byteAt, 2) := by rfl
theorem zco_162 : cost 162 = (0, 0, false, false) := by rfl
theorem zmt_162 : M 162 = some (C_X12_isLetter, 1) := by rfl
theorem zco_163 : cost 163 = (0, 0, false, false) := by rfl
theorem zmt_163 : M 163 = some (C_X12_isDigit, 1) := by rfl
theorem zco_164 : cost 164 = (0, 0, false, false) := by rfl
theorem zmt_164 : M 164 = some (C_X12_goes, 2) := by rfl
theorem zco_165 : cost 165 = (0, 0, false, false) := by rfl
theorem zmt_165 : M 165 = some (C_X12_spelled, 8) := by rfl
theorem zco_166 : cost 166 = (0, 0, false, false) := by rfl
theorem zmt_166 : M 166 = some (C_X12_letters, 1) := by rfl
theorem zco_167 : cost 167 = (0, 0, false, false) := by rfl
theorem zmt_167 : M 167 = some (C_X12_knownWord, 2) := by rfl
theorem zco_168 : cost 168 = (0, 0, false, false) := by rfl
theorem zmt_168 : M 168 = some (C_X12_wrong, 2) := by rfl
theorem zco_169 : cost 169 = (0, 0, false, false) := by rfl
theorem zmt_169 : M 169 = some (C_X12_isGood, 1) := by rfl
theorem zco_170 : cost 170 = (0, 0, false, false) := by rfl
theorem zmt_170 : M 170 = some (C_X12_isSign, 2) := by rfl
theorem zco_171 : cost 171 = (0, 0, false, false) := by rfl
theorem zmt_171 : M 171 = some (C_X12_need, 2) := by rfl
theorem zco_172 : cost 172 = (0, 0, false, false) := by rfl
theorem zmt_172 : M 172 = some (C_X12_number, 4) := by rfl
theorem zco_173 : cost 173 = (0, 0, false, false) := by rfl
theorem zmt_173 : M 173 = some (C_X12_cellHere, 1) := by rfl
theorem zco_174 : cost 174 = (0, 0, false, false) := by rfl
theorem zmt_174 : M 174 = some (C_X12_puts, 2) := by rfl
theorem zco_175 : cost 175 = (0, 0, false, false) := by rfl
theorem zmt_175 : M 175 = some (C_X12_isOpen, 1) := by rfl
theorem zco_176 : cost 176 = (0, 0, false, false) := by rfl
theorem zmt_176 : M 176 = some (C_X12_strength, 1) := by rfl
theorem zco_177 : cost 177 = (0, 0, false, false) := by rfl
theorem zmt_177 : M 177 = some (C_X12_drops, 2) := by rfl
theorem zco_178 : cost 178 = (0, 0, false, false) := by rfl
theorem zmt_178 : M 178 = some (C_X12_waitsFor, 2) := by rfl
theorem zco_179 : cost 179 = (0, 0, false, false) := by rfl
theorem zmt_179 : M 179 = some (C_X12_part, 2) := by rfl
theorem zco_180 : cost 180 = (0, 0, false, false) := by rfl
theorem zmt_180 : M 180 = some (C_X12_deeper, 1) := by rfl
theorem zco_181 : cost 181 = (0, 0, false, false) := by rfl
theorem zmt_181 : M 181 = some (C_X12_operand, 5) := by rfl
theorem zco_182 : cost 182 = (0, 0, false, false) := by rfl
theorem zmt_182 : M 182 = some (C_X12_isOpened, 2) := by rfl
theorem zco_183 : cost 183 = (0, 0, false, false) := by rfl
theorem zmt_183 : M 183 = some (C_X12_closes, 1) := by rfl
theorem zco_184 : cost 184 = (0, 0, false, false) := by rfl
theorem zmt_184 : M 184 = some (C_X12_expression, 5) := by rfl
theorem zco_185 : cost 185 = (0, 0, false, false) := by rfl
theorem zmt_185 : M 185 = some (C_X12_begins, 3) := by rfl
theorem zco_186 : cost 186 = (0, 0, false, false) := by rfl
theorem zmt_186 : M 186 = some (C_X12_readsWall, 3) := by rfl
theorem zco_187 : cost 187 = (0, 0, false, false) := by rfl
theorem zmt_187 : M 187 = some (C_X12_readsFigure, 5) := by rfl
theorem zco_188 : cost 188 = (0, 0, false, false) := by rfl
theorem zmt_188 : M 188 = some (C_X12_readsSeat, 1) := by rfl
theorem zco_189 : cost 189 = (0, 0, false, false) := by rfl
theorem zmt_189 : M 189 = some (C_X12_readsLight, 3) := by rfl
theorem zco_190 : cost 190 = (0, 0, false, false) := by rfl
theorem zmt_190 : M 190 = some (C_X12_line, 2) := by rfl
theorem zco_191 : cost 191 = (0, 0, false, false) := by rfl
theorem zmt_191 : M 191 = some (C_X12_town, 3) := by rfl
theorem zco_192 : cost 192 = (0, 0, false, false) := by rfl
theorem zmt_192 : M 192 = some (C_X12_fault, 1) := by rfl
theorem zco_193 : cost 193 = (0, 0, false, false) := by rfl
theorem zmt_193 : M 193 = some (C_X12_keeps, 2) := by rfl
theorem zco_194 : cost 194 = (0, 0, false, false) := by rfl
theorem zmt_194 : M 194 = some (C_X12_refuses, 2) := by rfl
theorem zco_195 : cost 195 = (0, 0, false, false) := by rfl
theorem zmt_195 : M 195 = some (C_X12_undo, 2) := by rfl
theorem zco_196 : cost 196 = (0, 0, false, false) := by rfl
theorem zmt_196 : M 196 = some (C_X12_tries, 2) := by rfl
theorem zco_197 : cost 197 = (0, 0, false, false) := by rfl
theorem zmt_197 : M 197 = some (C_X12_works, 3) := by rfl
theorem zco_198 : cost 198 = (0, 0, false, false) := by rfl
theorem zmt_198 : M 198 = some (C_X12_reckons, 5) := by rfl
theorem zco_199 : cost 199 = (0, 0, false, false) := by rfl
theorem zmt_199 : M 199 = some (C_X12_lightAt, 2) := by rfl
theorem zco_200 : cost 200 = (0, 0, false, false) := by rfl
theorem zmt_200 : M 200 = some (C_X12_isDull, 2) := by rfl
theorem zco_201 : cost 201 = (0, 0, false, false) := by rfl
theorem zmt_201 : M 201 = some (C_X12_atCell, 5) := by rfl
theorem zco_202 : cost 202 = (0, 0, false, false) := by rfl
theorem zmt_202 : M 202 = some (C_X12_withIt, 3) := by rfl
theorem zco_203 : cost 203 = (0, 0, false, false) := by rfl
theorem zmt_203 : M 203 = some (C_X12_stepOf, 3) := by rfl
theorem zco_204 : cost 204 = (0, 0, false, false) := by rfl
theorem zmt_204 : M 204 = some (C_X12_tells, 3) := by rfl
theorem zco_205 : cost 205 = (0, 0, false, false) := by rfl
theorem zmt_205 : M 205 = some (C_X12_hurtsBy, 3) := by rfl
theorem zco_206 : cost 206 = (0, 0, false, false) := by rfl
theorem zmt_206 : M 206 = some (C_X12_isGoing, 3) := by rfl
theorem zco_207 : cost 207 = (0, 0, false, false) := by rfl
theorem zmt_207 : M 207 = some (C_X12_beside, 3) := by rfl
theorem zco_208 : cost 208 = (0, 0, false, false) := by rfl
theorem zmt_208 : M 208 = some (C_X12_figureGoes, 4) := by rfl
theorem zco_209 : cost 209 = (0, 0, false, false) := by rfl
theorem zmt_209 : M 209 = some (C_X12_hourGoes, 3) := by rfl
theorem zco_210 : cost 210 = (0, 0, false, false) := by rfl
theorem zmt_210 : M 210 = some (C_X12_hoursGo, 3) := by rfl
theorem zco_211 : cost 211 = (0, 0, false, false) := by rfl
theorem zmt_211 : M 211 = some (C_X12_sumOf, 6) := by rfl
theorem zco_212 : cost 212 = (0, 0, false, false) := by rfl
theorem zmt_212 : M 212 = some (C_X12_heldOnes, 3) := by rfl
theorem zco_213 : cost 213 = (0, 0, false, false) := by rfl
theorem zmt_213 : M 213 = some (C_X12_laysFar, 7) := by rfl
theorem zco_214 : cost 214 = (0, 0, false, false) := by rfl
theorem zmt_214 : M 214 = some (C_X12_parts, 5) := by rfl
theorem zco_215 : cost 215 = (0, 0, false, false) := by rfl
theorem zmt_215 : M 215 = some (C_X12_count, 2) := by rfl
theorem zco_216 : cost 216 = (0, 0, false, false) := by rfl
theorem zmt_216 : M 216 = some (C_X12_isFigure, 2) := by rfl
theorem zco_217 : cost 217 = (0, 0, false, false) := by rfl
theorem zmt_217 : M 217 = some (C_X12_isCell, 2) := by rfl
theorem zco_218 : cost 218 = (0, 0, false, false) := by rfl
theorem zmt_218 : M 218 = some (C_X12_isWhat, 3) := by rfl
theorem zco_219 : cost 219 = (0, 0, false, false) := by rfl
theorem zmt_219 : M 219 = some (C_X12_isSoon, 4) := by rfl
theorem zco_220 : cost 220 = (0, 0, false, false) := by rfl
theorem zmt_220 : M 220 = some (C_X12_figure, 3) := by rfl
theorem zco_221 : cost 221 = (0, 0, false, false) := by rfl
theorem zmt_221 : M 221 = some (C_X12_seenFrom, 5) := by rfl
theorem zco_222 : cost 222 = (0, 0, false, false) := by rfl
theorem zmt_222 : M 222 = some (C_X12_cell, 5) := by rfl
theorem zco_223 : cost 223 = (0, 0, false, false) := by rfl
theorem zmt_223 : M 223 = some (C_X12_hours, 3) := by rfl
theorem zco_224 : cost 224 = (0, 0, false, false) := by rfl
theorem zmt_224 : M 224 = some (C_X12_stop, 3) := by rfl
theorem zco_225 : cost 225 = (0, 0, false, false) := by rfl
theorem zmt_225 : M 225 = some (C_X12_lift, 4) := by rfl
theorem zco_226 : cost 226 = (0, 0, false, false) := by rfl
theorem zmt_226 : M 226 = some (C_X12_brush, 3) := by rfl
theorem zco_227 : cost 227 = (0, 0, false, false) := by rfl
theorem zmt_227 : M 227 = some (C_X12_wall, 5) := by rfl
theorem zco_228 : cost 228 = (0, 0, false, false) := by rfl
theorem zmt_228 : M 228 = some (C_X12_goesTo, 2) := by rfl
theorem zco_229 : cost 229 = (0, 0, false, false) := by rfl
theorem zmt_229 : M 229 = some (C_X12_then, 4) := by rfl
theorem zco_230 : cost 230 = (0, 0, false, false) := by rfl
theorem zmt_230 : M 230 = some (C_X12_comes, 4) := by rfl
theorem zco_231 : cost 231 = (0, 0, false, false) := by rfl
theorem zmt_231 : M 231 = some (C_X12_meet, 4) := by rfl
theorem zco_232 : cost 232 = (0, 0, false, false) := by rfl
theorem zmt_232 : M 232 = some (C_X12_mostOften, 3) := by rfl
theorem zco_233 : cost 233 = (0, 0, false, false) := by rfl
theorem zmt_233 : M 233 = some (C_X12_clears, 2) := by rfl
theorem zco_234 : cost 234 = (0, 0, false, false) := by rfl
theorem zmt_234 : M 234 = some (C_X12_marks, 2) := by rfl
theorem zco_235 : cost 235 = (0, 0, false, false) := by rfl
theorem zmt_235 : M 235 = some (C_X12_crowd, 4) := by rfl
theorem zco_236 : cost 236 = (0, 0, false, false) := by rfl
theorem zmt_236 : M 236 = some (C_X12_areAsNow, 3) := by rfl
theorem zco_237 : cost 237 = (0, 0, false, false) := by rfl
theorem zmt_237 : M 237 = some (C_X12_round, 2) := by rfl
theorem zco_238 : cost 238 = (0, 0, false, false) := by rfl
theorem zmt_238 : M 238 = some (C_X12_spread, 5) := by rfl
theorem zco_239 : cost 239 = (0, 0, false, false) := by rfl
theorem zmt_239 : M 239 = some (C_X12_later, 7) := by rfl
theorem zco_240 : cost 240 = (0, 0, false, false) := by rfl
theorem zmt_240 : M 240 = some (C_X12_together, 6) := by rfl
theorem zco_241 : cost 241 = (0, 0, false, false) := by rfl
theorem zmt_241 : M 241 = some (C_X12_quiet, 5) := by rfl
theorem zco_242 : cost 242 = (0, 0, false, false) := by rfl
theorem zmt_242 : M 242 = some (C_X12_gone, 6) := by rfl
theorem zco_243 : cost 243 = (0, 0, false, false) := by rfl
theorem zmt_243 : M 243 = some (C_X12_way, 7) := by rfl
theorem zco_244 : cost 244 = (0, 0, false, false) := by rfl
theorem zmt_244 : M 244 = some (C_X12_toStop, 5) := by rfl
theorem zco_245 : cost 245 = (0, 0, false, false) := by rfl
theorem zmt_245 : M 245 = some (C_X12_toThin, 6) := by rfl
theorem zco_246 : cost 246 = (0, 0, false, false) := by rfl
theorem zmt_246 : M 246 = some (C_X12_sits, 4) := by rfl
theorem zco_247 : cost 247 = (0, 0, false, false) := by rfl
theorem zmt_247 : M 247 = some (C_X12_canSit, 4) := by rfl
theorem zco_248 : cost 248 = (0, 0, false, false) := by rfl
theorem zmt_248 : M 248 = some (C_X12_laysSeats, 5) := by rfl
theorem zco_249 : cost 249 = (0, 0, false, false) := by rfl
theorem zmt_249 : M 249 = some (C_X12_seats, 2) := by rfl
theorem zco_250 : cost 250 = (0, 0, false, false) := by rfl
theorem zmt_250 : M 250 = some (C_X12_seat, 6) := by rfl
theorem zco_251 : cost 251 = (0, 0, false, false) := by rfl
theorem zmt_251 : M 251 = some (C_X12_note, 4) := by rfl
theorem zco_252 : cost 252 = (0, 0, false, false) := by rfl
theorem zmt_252 : M 252 = some (C_X12_forget, 1) := by rfl
theorem zco_253 : cost 253 = (0, 0, false, false) := by rfl
theorem zmt_253 : M 253 = some (C_X12_isNoted, 3) := by rfl
theorem zco_254 : cost 254 = (0, 0, false, false) := by rfl
theorem zmt_254 : M 254 = some (C_X12_isGuess, 3) := by rfl
theorem zco_255 : cost 255 = (0, 0, false, false) := by rfl
theorem zmt_255 : M 255 = some (C_X12_ahead, 5) := by rfl
theorem zco_256 : cost 256 = (0, 0, false, false) := by rfl
theorem zmt_256 : M 256 = some (C_X12_look, 10) := by rfl
theorem zco_257 : cost 257 = (0, 0, false, false) := by rfl
theorem zmt_257 : M 257 = some (C_X12_clouds, 9) := by rfl
theorem zco_258 : cost 258 = (0, 0, false, false) := by rfl
theorem zmt_258 : M 258 = some (C_X12_gains, 7) := by rfl
theorem zco_259 : cost 259 = (0, 0, false, false) := by rfl
theorem zmt_259 : M 259 = some (C_X12_game, 9) := by rfl
theorem zco_260 : cost 260 = (0, 0, false, false) := by rfl
theorem zmt_260 : M 260 = some (C_X12_draw, 2) := by rfl
theorem zco_261 : cost 261 = (0, 0, false, false) := by rfl
theorem zmt_261 : M 261 = some (C_X12_happens, 4) := by rfl
theorem zco_262 : cost 262 = (0, 0, false, false) := by rfl
theorem zmt_262 : M 262 = some (C_X12_years, 8) := by rfl
theorem zco_263 : cost 263 = (0, 0, false, false) := by rfl
theorem zmt_263 : M 263 = some (C_X12_image, 2) := by rfl
theorem zco_264 : cost 264 = (0, 0, false, false) := by rfl
theorem zmt_264 : M 264 = some (C_X12_restore, 2) := by rfl
theorem zco_265 : cost 265 = (0, 0, false, false) := by rfl
theorem zmt_265 : M 265 = some (C_J6_bitCount_0f7a4, 1) := by rfl
theorem zco_266 : cost 266 = (0, 0, false, false) := by rfl
theorem zmt_266 : M 266 = some (C_J13_bitCount_95d88, 2) := by rfl
theorem zco_267 : cost 267 = (0, 0, false, false) := by rfl
theorem zmt_267 : M 267 = some (C_J7_fill_d0a16, 5) := by rfl
theorem zco_268 : cost 268 = (0, 0, false, false) := by rfl
theorem zmt_268 : M 268 = some (C_J7_fill_53178, 4) := by rfl
theorem zco_269 : cost 269 = (0, 0, false, false) := by rfl
theorem zco_270 : cost 270 = (0, 0, false, false) := by rfl
theorem zco_271 : cost 271 = (0, 0, false, false) := by rfl
theorem zco_272 : cost 272 = (1, 6, false, true) := by rfl
theorem zmt_272 : M 272 = some (C_L_town, 4) := by rfl
theorem zco_273 : cost 273 = (1, 6, false, true) := by rfl
theorem zmt_273 : M 273 = some (C_L_count, 4) := by rfl
theorem zco_274 : cost 274 = (1, 6, false, true) := by rfl
theorem zmt_274 : M 274 = some (C_L_figure, 5) := by rfl
theorem zco_275 : cost 275 = (1, 6, false, true) := by rfl
theorem zmt_275 : M 275 = some (C_L_cell, 5) := by rfl
theorem zco_276 : cost 276 = (1, 6, false, true) := by rfl
theorem zmt_276 : M 276 = some (C_L_stop, 5) := by rfl
theorem zco_277 : cost 277 = (1, 6, false, true) := by rfl
theorem zmt_277 : M 277 = some (C_L_lift, 5) := by rfl
theorem zco_278 : cost 278 = (1, 6, false, true) := by rfl
theorem zmt_278 : M 278 = some (C_L_brush, 4) := by rfl
theorem zco_279 : cost 279 = (1, 6, false, true) := by rfl
theorem zmt_279 : M 279 = some (C_L_wall, 5) := by rfl
theorem zco_280 : cost 280 = (1, 6, false, true) := by rfl
theorem zmt_280 : M 280 = some (C_L_then, 6) := by rfl
theorem zco_281 : cost 281 = (1, 6, false, true) := by rfl
theorem zmt_281 : M 281 = some (C_L_comes, 5) := by rfl
theorem zco_282 : cost 282 = (1, 6, false, true) := by rfl
theorem zmt_282 : M 282 = some (C_L_meet, 5) := by rfl
theorem zco_283 : cost 283 = (1, 6, false, true) := by rfl
theorem zmt_283 : M 283 = some (C_L_crowd, 5) := by rfl
theorem zco_284 : cost 284 = (1, 6, false, true) := by rfl
theorem zmt_284 : M 284 = some (C_L_spread, 5) := by rfl
theorem zco_285 : cost 285 = (1, 6, false, true) := by rfl
theorem zmt_285 : M 285 = some (C_L_way, 6) := by rfl
theorem zco_286 : cost 286 = (1, 6, false, true) := by rfl
theorem zmt_286 : M 286 = some (C_L_toStop, 6) := by rfl
theorem zco_287 : cost 287 = (1, 6, false, true) := by rfl
theorem zmt_287 : M 287 = some (C_L_toThin, 4) := by rfl
theorem zco_288 : cost 288 = (1, 6, false, true) := by rfl
theorem zmt_288 : M 288 = some (C_L_seats, 4) := by rfl
theorem zco_289 : cost 289 = (1, 6, false, true) := by rfl
theorem zmt_289 : M 289 = some (C_L_seat, 4) := by rfl
theorem zco_290 : cost 290 = (1, 6, false, true) := by rfl
theorem zmt_290 : M 290 = some (C_L_note, 6) := by rfl
theorem zco_291 : cost 291 = (1, 6, false, true) := by rfl
theorem zmt_291 : M 291 = some (C_L_ahead, 4) := by rfl
theorem zco_292 : cost 292 = (1, 6, false, true) := by rfl
theorem zmt_292 : M 292 = some (C_L_look, 4) := by rfl
theorem zco_293 : cost 293 = (1, 6, false, true) := by rfl
theorem zmt_293 : M 293 = some (C_L_clouds, 7) := by rfl
theorem zco_294 : cost 294 = (1, 6, false, true) := by rfl
theorem zmt_294 : M 294 = some (C_L_game, 6) := by rfl
theorem zco_295 : cost 295 = (1, 6, false, true) := by rfl
theorem zmt_295 : M 295 = some (C_L_years, 6) := by rfl
theorem zco_296 : cost 296 = (1, 6, false, true) := by rfl
theorem zmt_296 : M 296 = some (C_L_later, 5) := by rfl
theorem zco_297 : cost 297 = (1, 6, false, true) := by rfl
theorem zmt_297 : M 297 = some (C_L_together, 6) := by rfl
theorem zco_298 : cost 298 = (1, 6, false, true) := by rfl
theorem zmt_298 : M 298 = some (C_L_quiet, 5) := by rfl
theorem zco_299 : cost 299 = (1, 6, false, true) := by rfl
theorem zmt_299 : M 299 = some (C_L_gone, 5) := by rfl
