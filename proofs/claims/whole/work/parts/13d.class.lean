theorem cl_0 : ckCl (RX0, TX0, 7, [2034, 2036, 2038, 2040, 2042, 2044, 2046]) = true := by decide +kernel
theorem cl_1 : ckCl (RX1, TX1, 4, [2114, 2116, 2118, 2120]) = true := by decide +kernel
theorem cl_2 : ckCl (RX2, TX2, 1, [2056]) = true := by decide +kernel
theorem cl_3 : ckCl (RX3, TX3, 15, [1179, 1181, 1183, 1185, 1187, 1189, 1191, 1193, 1195, 1197, 1199, 1201, 1203, 1205, 1207]) = true := by decide +kernel
theorem cl_4 : ckCl (RX4, TX4, 2, [1106, 1108]) = true := by decide +kernel
theorem cl_5 : ckCl (RX5, TX5, 3, [1126, 1128, 1130]) = true := by decide +kernel
theorem cl_6 : ckCl (RX6, TX6, 6, [1090, 1092, 1094, 1096, 1098, 1100]) = true := by decide +kernel
theorem cl_7 : ckCl (RX7, TX7, 5, [2088, 2090, 2092, 2094, 2096]) = true := by decide +kernel
theorem cl_8 : ckCl (RX8, TX8, 8, [2002, 2004, 2006, 2008, 2010, 2012, 2014, 2016]) = true := by decide +kernel
theorem cl_9 : ckCl (RX9, TX9, 7, [1056, 1058, 1060, 1062, 1064, 1066, 1068]) = true := by decide +kernel
theorem cl_10 : ckCl (RX10, TX10, 2, [2069, 2071]) = true := by decide +kernel
theorem cl_11 : ckCl (RX11, TX11, 20, [2162, 2164, 2166, 2168, 2170, 2172, 2174, 2176, 2178, 2180, 2182, 2184, 2186, 2188, 2190, 2192, 2194, 2196, 2198, 2200]) = true := by decide +kernel
theorem cl_12 : ckCl (RX12, TX12, 71, [6209, 6211, 6213, 6215, 6217, 6219, 6221, 6223, 6225, 6227, 6229, 6231, 6233, 6235, 6237, 6239, 7001, 7003, 7005, 7007, 7009, 7011, 7013, 7015, 7017, 7019, 7021, 7023, 7025, 7027, 7029, 7031, 7033, 7035, 7037, 7039, 7041, 7043, 7045, 7047, 7049, 7051, 7053, 7055, 7057, 7059, 7061, 7063, 7065, 7067, 7069, 7071, 7073, 7075, 7077, 7079, 7081, 7083, 7085, 7087, 7089, 7091, 7093, 7095, 7097, 7099, 7101, 7103, 7105, 7107, 7109]) = true := by decide +kernel
theorem cl_all (c : Cond) : pm_okC (c :: TW) := by
  intro ci C' T N h
  match ci, h with
  | 0, h => cases h; exact ⟨ckCl_ok cl_0 c, tyX0, tyX0_ok, nmX0⟩
  | 1, h => cases h; exact ⟨ckCl_ok cl_1 c, tyX1, tyX1_ok, nmX1⟩
  | 2, h => cases h; exact ⟨ckCl_ok cl_2 c, tyX2, tyX2_ok, nmX2⟩
  | 3, h => cases h; exact ⟨ckCl_ok cl_3 c, tyX3, tyX3_ok, nmX3⟩
  | 4, h => cases h; exact ⟨ckCl_ok cl_4 c, tyX4, tyX4_ok, nmX4⟩
  | 5, h => cases h; exact ⟨ckCl_ok cl_5 c, tyX5, tyX5_ok, nmX5⟩
  | 6, h => cases h; exact ⟨ckCl_ok cl_6 c, tyX6, tyX6_ok, nmX6⟩
  | 7, h => cases h; exact ⟨ckCl_ok cl_7 c, tyX7, tyX7_ok, nmX7⟩
  | 8, h => cases h; exact ⟨ckCl_ok cl_8 c, tyX8, tyX8_ok, nmX8⟩
  | 9, h => cases h; exact ⟨ckCl_ok cl_9 c, tyX9, tyX9_ok, nmX9⟩
  | 10, h => cases h; exact ⟨ckCl_ok cl_10 c, tyX10, tyX10_ok, nmX10⟩
  | 11, h => cases h; exact ⟨ckCl_ok cl_11 c, tyX11, tyX11_ok, nmX11⟩
  | 12, h => cases h; exact ⟨ckCl_ok cl_12 c, tyX12, tyX12_ok, nmX12⟩
  | k + 13, h => simp [vwCl] at h
theorem ar_all (c : Cond) (t : ClassFile.ArrayType) : Cond.arrayClass (newarray.typeOf t) ∈ c :: TW ∨ pm_akd t = none := by
  cases t
  · exact Or.inl (List.mem_cons_of_mem _ (inT_ok (pos := 7112) (by decide +kernel)))
  · exact Or.inl (List.mem_cons_of_mem _ (inT_ok (pos := 1071) (by decide +kernel)))
  · exact Or.inr rfl
  · exact Or.inr rfl
  · exact Or.inr rfl
  · exact Or.inr rfl
  · exact Or.inl (List.mem_cons_of_mem _ (inT_ok (pos := 1103) (by decide +kernel)))
  · exact Or.inl (List.mem_cons_of_mem _ (inT_ok (pos := 2123) (by decide +kernel)))
