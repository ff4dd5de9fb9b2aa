/-! BITS COUNTED: Integer.bitCount below 256, Long.bitCount below 2 to the 36 -/
theorem j_bits : ∀ v, v < 256 → f_J6_bitCount_0f7a4 (nI v) = some (nI (fb_ct v.testBit 8)) := by decide +kernel
theorem and_b {u w mu m : Nat} (hu : u < 256) (hm : mu < 256) : (u + 256 * w) &&& (mu + 256 * m) = (u &&& mu) + 256 * (w &&& m) := by
  have hx : u &&& mu < 2 ^ 8 := Nat.lt_of_le_of_lt Nat.and_le_left hu
  rw [Nat.add_comm u, Nat.add_comm mu, Nat.add_comm (u &&& mu)]
  apply Nat.eq_of_testBit_eq
  intro i
  rw [Nat.testBit_and, show 256 = 2 ^ 8 from rfl, Nat.testBit_two_pow_mul_add _ hu, Nat.testBit_two_pow_mul_add _ hm, Nat.testBit_two_pow_mul_add _ hx]
  split
  · rw [Nat.testBit_and]
  · rw [Nat.testBit_and]
def y1 (u : Nat) : Nat := u - (u / 2 &&& 85)
def y2 (u : Nat) : Nat := (u &&& 51) + (u / 4 &&& 51)
def y3 (u : Nat) : Nat := (u + u / 16) &&& 15
theorem b_1 : ∀ u, u < 256 → ∀ r, r < 2 → (u / 2 + 128 * r) &&& 85 = u / 2 &&& 85 := by decide +kernel
theorem b_2 : ∀ u, u < 256 → ∀ r, r < 4 → (u / 4 + 64 * r) &&& 51 = u / 4 &&& 51 := by decide +kernel
theorem b_3 : ∀ a, a < 5 → ∀ b, b < 5 → ∀ r, r < 5 → (16 * a + b + a + 16 * r) &&& 15 = (16 * a + b + a) &&& 15 := by decide +kernel
theorem b_y : ∀ u, u < 256 → y1 u < 256 ∧ y2 (y1 u) < 256 ∧ y2 (y1 u) % 16 < 5 ∧ y2 (y1 u) / 16 < 5 ∧ y3 (y2 (y1 u)) = fb_ct u.testBit 8 ∧ y3 (y2 (y1 u)) < 9 := by decide +kernel
theorem st_1 {m u w : Nat} (hu : u < 256) : (u + 256 * w) - (((u + 256 * w) / 2) &&& (85 + 256 * m)) = y1 u + 256 * (w - (w / 2 &&& m)) := by
  rw [show (u + 256 * w) / 2 = (u / 2 + 128 * (w % 2)) + 256 * (w / 2) by omega, and_b (by omega) (by decide), b_1 u hu (w % 2) (by omega)]
  have h1 : u / 2 &&& 85 ≤ u := Nat.le_trans Nat.and_le_left (Nat.div_le_self _ _)
  have h2 : w / 2 &&& m ≤ w := Nat.le_trans Nat.and_le_left (Nat.div_le_self _ _)
  unfold y1
  omega
theorem st_2 {m u w : Nat} (hu : u < 256) : ((u + 256 * w) &&& (51 + 256 * m)) + (((u + 256 * w) / 4) &&& (51 + 256 * m)) = y2 u + 256 * ((w &&& m) + (w / 4 &&& m)) := by
  rw [show (u + 256 * w) / 4 = (u / 4 + 64 * (w % 4)) + 256 * (w / 4) by omega, and_b hu (by decide), and_b (by omega) (by decide), b_2 u hu (w % 4) (by omega)]
  unfold y2
  omega
theorem st_3 {m u w : Nat} (hu : u < 256) (h1 : u % 16 < 5) (h2 : u / 16 < 5) (h3 : w % 16 < 5) : ((u + 256 * w) + (u + 256 * w) / 16) &&& (15 + 256 * m) = y3 u + 256 * ((w + w / 16) &&& m) := by
  rw [show (u + 256 * w) + (u + 256 * w) / 16 = (16 * (u / 16) + u % 16 + u / 16 + 16 * (w % 16)) + 256 * (w + w / 16) by omega, and_b (by omega) (by decide), b_3 _ h2 _ h1 _ h3, show 16 * (u / 16) + u % 16 + u / 16 = u + u / 16 by omega]
  rfl
theorem w_1 {b0 b1 b2 b3 b4 : Nat} (h0 : b0 < 256) (h1 : b1 < 256) (h2 : b2 < 256) (h3 : b3 < 256) (h4 : b4 < 256) : (b0 + 256 * (b1 + 256 * (b2 + 256 * (b3 + 256 * (b4))))) - (((b0 + 256 * (b1 + 256 * (b2 + 256 * (b3 + 256 * (b4))))) / 2) &&& 6148914691236517205) = y1 b0 + 256 * (y1 b1 + 256 * (y1 b2 + 256 * (y1 b3 + 256 * (y1 b4)))) := by
  rw [show (6148914691236517205 : Nat) = 85 + 256 * 24019198012642645 from rfl, st_1 h0]
  rw [show (24019198012642645 : Nat) = 85 + 256 * 93824992236885 from rfl, st_1 h1]
  rw [show (93824992236885 : Nat) = 85 + 256 * 366503875925 from rfl, st_1 h2]
  rw [show (366503875925 : Nat) = 85 + 256 * 1431655765 from rfl, st_1 h3]
  have := (by decide +kernel : ∀ u, u < 256 → u - (u / 2 &&& 1431655765) = y1 u) b4 h4
  rw [this]
theorem w_2 {b0 b1 b2 b3 b4 : Nat} (h0 : b0 < 256) (h1 : b1 < 256) (h2 : b2 < 256) (h3 : b3 < 256) (h4 : b4 < 256) : ((b0 + 256 * (b1 + 256 * (b2 + 256 * (b3 + 256 * (b4))))) &&& 3689348814741910323) + (((b0 + 256 * (b1 + 256 * (b2 + 256 * (b3 + 256 * (b4))))) / 4) &&& 3689348814741910323) = y2 b0 + 256 * (y2 b1 + 256 * (y2 b2 + 256 * (y2 b3 + 256 * (y2 b4)))) := by
  rw [show (3689348814741910323 : Nat) = 51 + 256 * 14411518807585587 from rfl, st_2 h0]
  rw [show (14411518807585587 : Nat) = 51 + 256 * 56294995342131 from rfl, st_2 h1]
  rw [show (56294995342131 : Nat) = 51 + 256 * 219902325555 from rfl, st_2 h2]
  rw [show (219902325555 : Nat) = 51 + 256 * 858993459 from rfl, st_2 h3]
  have := (by decide +kernel : ∀ u, u < 256 → (u &&& 858993459) + (u / 4 &&& 858993459) = y2 u) b4 h4
  rw [this]
theorem w_3 {b0 b1 b2 b3 b4 : Nat} (h0 : b0 < 256) (h1 : b1 < 256) (h2 : b2 < 256) (h3 : b3 < 256) (h4 : b4 < 256) (l0 : b0 % 16 < 5) (g0 : b0 / 16 < 5) (l1 : b1 % 16 < 5) (g1 : b1 / 16 < 5) (l2 : b2 % 16 < 5) (g2 : b2 / 16 < 5) (l3 : b3 % 16 < 5) (g3 : b3 / 16 < 5) (l4 : b4 % 16 < 5) (g4 : b4 / 16 < 5) : ((b0 + 256 * (b1 + 256 * (b2 + 256 * (b3 + 256 * (b4))))) + (b0 + 256 * (b1 + 256 * (b2 + 256 * (b3 + 256 * (b4))))) / 16) &&& 1085102592571150095 = y3 b0 + 256 * (y3 b1 + 256 * (y3 b2 + 256 * (y3 b3 + 256 * (y3 b4)))) := by
  rw [show (1085102592571150095 : Nat) = 15 + 256 * 4238682002231055 from rfl, st_3 h0 l0 g0 (by omega)]
  rw [show (4238682002231055 : Nat) = 15 + 256 * 16557351571215 from rfl, st_3 h1 l1 g1 (by omega)]
  rw [show (16557351571215 : Nat) = 15 + 256 * 64677154575 from rfl, st_3 h2 l2 g2 (by omega)]
  rw [show (64677154575 : Nat) = 15 + 256 * 252645135 from rfl, st_3 h3 l3 g3 (by omega)]
  have := (by decide +kernel : ∀ u, u < 80 → (u + u / 16) &&& 252645135 = y3 u) b4 (by omega)
  rw [this]
theorem w_4 {c0 c1 c2 c3 c4 : Nat} (h0 : c0 < 9) (h1 : c1 < 9) (h2 : c2 < 9) (h3 : c3 < 9) (h4 : c4 < 9) {s s1 s2 s3 : Nat} (e0 : s = c0 + 256 * (c1 + 256 * (c2 + 256 * (c3 + 256 * (c4))))) (e1 : s1 = s + s / 256) (e2 : s2 = s1 + s1 / 65536) (e3 : s3 = s2 + s2 / 4294967296) : s3 % 128 = c0 + c1 + c2 + c3 + c4 ∧ s3 < 2 ^ 62 := by
  have a1 : s / 256 = c1 + 256 * (c2 + 256 * (c3 + 256 * c4)) := by omega
  have a2 : s1 = (c0 + c1) + 256 * (c1 + c2) + 65536 * (c2 + c3) + 16777216 * (c3 + c4) + 4294967296 * c4 := by omega
  have a3 : s1 / 65536 = (c2 + c3) + 256 * (c3 + c4) + 65536 * c4 := by omega
  have a4 : s2 = (c0 + c1 + c2 + c3) + 256 * (c1 + c2 + c3 + c4) + 65536 * (c2 + c3 + c4) + 16777216 * (c3 + c4) + 4294967296 * c4 := by omega
  have a5 : s2 / 4294967296 = c4 := by omega
  have a6 : s3 = (c0 + c1 + c2 + c3 + c4) + 256 * (c1 + c2 + c3 + c4) + 65536 * (c2 + c3 + c4) + 16777216 * (c3 + c4) + 4294967296 * c4 := by omega
  clear e0 e1 e2 e3 a1 a2 a3 a4 a5
  omega
def sh6 (k : Nat) (z : Int64) : Int64 := (z.toUInt64 >>> ((nI k).toInt64.toUInt64 &&& Int64.toUInt64 63)).toInt64
theorem j_unf (z : Int64) {z1 z2 z3 z4 z5 z6 : Int64} (e1 : z1 = z - (sh6 1 z &&& lN 6148914691236517205)) (e2 : z2 = (z1 &&& lN 3689348814741910323) + (sh6 2 z1 &&& lN 3689348814741910323)) (e3 : z3 = (z2 + sh6 4 z2) &&& lN 1085102592571150095) (e4 : z4 = z3 + sh6 8 z3) (e5 : z5 = z4 + sh6 16 z4) (e6 : z6 = z5 + sh6 32 z5) : f_J13_bitCount_95d88 z = some (z6.toInt32 &&& 127) := by
  subst e1; subst e2; subst e3; subst e4; subst e5; subst e6
  rfl
theorem ct_b {u w n : Nat} (hu : u < 256) : fb_ct (u + 256 * w).testBit (8 + n) = fb_ct u.testBit 8 + fb_ct w.testBit n := by
  rw [fb_ct_split]
  congr 1
  · refine fb_ct_cong (fun k hk => ?_)
    rw [Nat.add_comm, show 256 = 2 ^ 8 from rfl, Nat.testBit_two_pow_mul_add _ hu, if_pos hk]
  · refine fb_ct_cong (fun k hk => ?_)
    rw [Nat.add_comm, show 256 = 2 ^ 8 from rfl, Nat.testBit_two_pow_mul_add _ hu, if_neg (by omega), show 8 + k - 8 = k by omega]
theorem l_bits {x : Nat} (hx : x < 2 ^ 40) : f_J13_bitCount_95d88 (lN x) = some (nI (fb_ct x.testBit 40)) := by
  obtain ⟨b0, b1, b2, b3, b4, h0, h1, h2, h3, h4, rfl⟩ : ∃ b0 b1 b2 b3 b4, b0 < 256 ∧ b1 < 256 ∧ b2 < 256 ∧ b3 < 256 ∧ b4 < 256 ∧ x = b0 + 256 * (b1 + 256 * (b2 + 256 * (b3 + 256 * (b4)))) := ⟨x % 256, x / 256 % 256, x / 65536 % 256, x / 16777216 % 256, x / 4294967296, by omega, by omega, by omega, by omega, by omega, by omega⟩
  have k0 := b_y b0 h0
  have k1 := b_y b1 h1
  have k2 := b_y b2 h2
  have k3 := b_y b3 h3
  have k4 := b_y b4 h4
  have shr : ∀ {k n : Nat}, n < 2 ^ 64 → k < 64 → sh6 k (lN n) = lN (n / 2 ^ k) := fun hn hk => wb_shr hn hk
  have w1 := w_1 h0 h1 h2 h3 h4
  have w2 := w_2 k0.1 k1.1 k2.1 k3.1 k4.1
  have w3 := w_3 k0.2.1 k1.2.1 k2.2.1 k3.2.1 k4.2.1 k0.2.2.1 k0.2.2.2.1 k1.2.2.1 k1.2.2.2.1 k2.2.2.1 k2.2.2.2.1 k3.2.2.1 k3.2.2.2.1 k4.2.2.1 k4.2.2.2.1
  have w4 := w_4 k0.2.2.2.2.2 k1.2.2.2.2.2 k2.2.2.2.2.2 k3.2.2.2.2.2 k4.2.2.2.2.2 rfl rfl rfl rfl
  rw [k0.2.2.2.2.1, k1.2.2.2.2.1, k2.2.2.2.2.1, k3.2.2.2.2.1, k4.2.2.2.2.1] at w3 w4
  rw [show 40 = 8 + (8 + (8 + (8 + 8))) from rfl, ct_b h0, ct_b h1, ct_b h2, ct_b h3]
  have c0 := fb_ct_le b0.testBit 8
  have c1 := fb_ct_le b1.testBit 8
  have c2 := fb_ct_le b2.testBit 8
  have c3 := fb_ct_le b3.testBit 8
  have c4 := fb_ct_le b4.testBit 8
  refine (j_unf (lN (b0 + 256 * (b1 + 256 * (b2 + 256 * (b3 + 256 * (b4)))))) rfl rfl rfl rfl rfl rfl).trans ?_
  rw [shr (k := 1) (by omega) (by decide), fb_andL, lN_sub (Nat.le_trans Nat.and_le_left (Nat.div_le_self _ _)), show 2 ^ 1 = 2 from rfl, w1]
  rw [shr (k := 2) (by omega) (by decide), fb_andL, fb_andL, lN_add, show 2 ^ 2 = 4 from rfl, w2]
  rw [shr (k := 4) (by omega) (by decide), lN_add, fb_andL, show 2 ^ 4 = 16 from rfl, w3]
  rw [shr (k := 8) (by omega) (by decide), lN_add, show 2 ^ 8 = 256 from rfl]
  rw [shr (k := 16) (by omega) (by decide), lN_add, show 2 ^ 16 = 65536 from rfl]
  rw [shr (k := 32) (by omega) (by decide), lN_add, show 2 ^ 32 = 4294967296 from rfl, lN_i, show (127 : Int32) = nI (2 ^ 7 - 1) from rfl, fa_and, Nat.and_two_pow_sub_one_eq_mod, show 2 ^ 7 = 128 from rfl, w4.1]
  congr 2
  omega
