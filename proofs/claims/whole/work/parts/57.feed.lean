/-! FEED: four bytes of a number; draws -/
theorem b_15 : ∀ i, i < 32 → bt 32767 i = decide (i < 15) := by decide +kernel
theorem sh_255 {n : Nat} (hn : n ≤ 24) (x : Int32) : (x.toUInt32 >>> ((nI n).toUInt32 &&& Int32.toUInt32 31)).toInt32 &&& 255 = (x >>> (nI n &&& 31)) &&& 255 := b_ext (fun i hi => by
  rw [b_and, b_and, b_ushr n (by omega), b_sshr n (by omega) x hi, b_255]
  by_cases h : i < 8
  · rw [if_pos (by omega)]
  · rw [decide_eq_false h, Bool.and_false, Bool.and_false])
theorem zk_sh15 (x : Int32) : (x.toUInt32 >>> ((nI 16).toUInt32 &&& Int32.toUInt32 31)).toInt32 &&& 32767 = (x >>> (nI 16 &&& 31)) &&& 32767 := b_ext (fun i hi => by
  rw [b_and, b_and, b_ushr 16 (by omega), b_sshr 16 (by omega) x hi, b_15 i hi]
  by_cases h : i < 15
  · rw [if_pos (by omega)]
  · rw [decide_eq_false h, Bool.and_false, Bool.and_false])
theorem zk_nI (x : Int32) : x = nI x.toBitVec.toNat := by
  apply Int32.toBitVec_inj.mp
  show x.toBitVec = BitVec.ofNat 32 x.toBitVec.toNat
  simp
def byt (a : Int32) (k : Nat) : Nat := (a >>> (nI (24 - 8 * k) &&& 31)).toBitVec.toNat &&& 255
theorem byt_lt (a : Int32) (k : Nat) : byt a k < 256 := Nat.lt_of_le_of_lt Nat.and_le_right (by decide)
theorem byt_eq (a : Int32) (k : Nat) : (a >>> (nI (24 - 8 * k) &&& 31)) &&& 255 = nI (byt a k) := by
  unfold byt
  rw [← fa_and, ← zk_nI]; rfl
theorem nar_b : ∀ b, b < 256 → vp_nar .char (((nI b).toUInt32 % 65536).toInt32) = nI b := by decide +kernel
def layK (bytes : Nat → Int32) (sz : Nat) (a : Int32) : Nat → Nat → Int32
  | 0 => bytes
  | k + 1 => upd (layK bytes sz a k) (sz + k) (nI (byt a k))
theorem sh_dn : ∀ k, k < 4 → nI 24 - nI (8 * k) = nI (24 - 8 * k) ∧ nI (24 - 8 * k) + (-8) = nI 24 - nI (8 * (k + 1)) ∧ ¬ nI (24 - 8 * k) < 0 := by decide
theorem c_add {sz : Nat} {bytes : Nat → Int32} {a : Int32} (h : sz + 4 ≤ 700) : zwp (f_X9_add a bytes (nI sz)) (fun r => r = (layK bytes sz a 4, nI (sz + 4))) := by
  unfold f_X9_add
  refine zl_bind (P := fun k x => x = (nI 24 - nI (8 * k), layK bytes sz a k, nI (sz + k))) (Post := fun r => r = (layK bytes sz a 4, nI (sz + 4))) 4 (by decide) rfl ?_ ?_ ?_
  · rintro k hk _ rfl
    obtain ⟨s1, s2, s3⟩ := sh_dn k hk
    rw [s1]
    refine zi_f s3 (zi_f (by rw [show (700 : Int32) = nI 700 from rfl]; exact nI_ge (by omega) (by decide)) ?_)
    rw [zbnd_nI (by omega) (by decide), nI_clamp (by omega), sh_255 (by omega), byt_eq, nar_b _ (byt_lt a k), nI_1, s2]
    exact zwi rfl
  · rintro _ rfl
    exact zi_t (show nI 24 - nI (8 * 4) < 0 by decide) (zwi rfl)
  · rintro _ rfl; exact zwi rfl
theorem m_lays {sz : Nat} {bytes : Nat → Int32} {a : Int32} (h : sz + 4 ≤ 700) : zwp (f_X12_lays a bytes (nI sz)) (fun r => r = (layK bytes sz a 4, nI (sz + 4))) := by
  unfold f_X12_lays
  refine zl_bind (P := fun k x => x = (nI 24 - nI (8 * k), layK bytes sz a k, nI (sz + k))) (Post := fun r => r = (layK bytes sz a 4, nI (sz + 4))) 4 (by decide) rfl ?_ ?_ ?_
  · rintro k hk _ rfl
    obtain ⟨s1, s2, s3⟩ := sh_dn k hk
    rw [s1]
    refine zi_f s3 ?_
    rw [zbnd_nI (by omega) (by decide), nI_clamp (by omega), byt_eq, nI_1, s2]
    exact zwi rfl
  · rintro _ rfl
    exact zi_t (show nI 24 - nI (8 * 4) < 0 by decide) (zwi rfl)
  · rintro _ rfl; exact zwi rfl
/-- the tape of both -/
def TapeR (sz : Nat) (bytes mtape : Nat → Int32) : Prop := sz ≤ 700 ∧ ∀ k, k < sz → bytes k = mtape k ∧ ∃ b, b < 256 ∧ bytes k = nI b
theorem TapeR.lay {sz : Nat} {bytes mtape : Nat → Int32} {a : Int32} (h : TapeR sz bytes mtape) (hs : sz + 4 ≤ 700) : TapeR (sz + 4) (layK bytes sz a 4) (layK mtape sz a 4) := by
  have key : ∀ n, n ≤ 4 → TapeR (sz + n) (layK bytes sz a n) (layK mtape sz a n) := by
    intro n
    induction n with
    | zero => intro _; exact h
    | succ n ih =>
      intro hn
      obtain ⟨i1, i2⟩ := ih (by omega)
      refine ⟨by omega, fun k hk => ?_⟩
      unfold layK
      by_cases q : k = sz + n
      · subst q; rw [pk_us, pk_us]; exact ⟨rfl, _, byt_lt a n, rfl⟩
      · rw [pk_un q, pk_un q]; exact i2 k (by omega)
  exact key 4 (Nat.le_refl _)
theorem cm_feed {sz : Nat} {bytes mtape : Nat → Int32} {mthr a1 a2 a3 a4 a5 : Int32} (h : TapeR sz bytes mtape) : zwp (f_X11_feed a1 a2 a3 a4 a5 bytes (nI sz)) (fun r => zwp (f_X12_feed a1 a2 a3 a4 a5 mtape (nI sz) mthr) (fun (s : Int32 × (Nat → Int32) × Int32 × Int32) => r.1 = s.1 ∧ s.2.2.2 = 0 ∧ ∃ sz2, r.2.2 = nI sz2 ∧ s.2.2.1 = nI sz2 ∧ TapeR sz2 r.2.1 s.2.1)) := by
  unfold f_X11_feed f_X12_feed
  have hz := h.1
  rw [show (20 : Int32) = nI 20 from rfl, nI_add, show (700 : Int32) = nI 700 from rfl]
  by_cases q : sz + 20 ≤ 700
  · refine zi_t (nI_le q (by decide)) ?_
    refine zi_bind (zwp_mono (c_add (by omega)) ?_)
    rintro _ rfl
    refine zi_bind (zwp_mono (c_add (by omega)) ?_)
    rintro _ rfl
    refine zi_bind (zwp_mono (c_add (by omega)) ?_)
    rintro _ rfl
    refine zi_bind (zwp_mono (c_add (by omega)) ?_)
    rintro _ rfl
    refine zi_bind (zwp_mono (c_add (by omega)) ?_)
    rintro _ rfl
    refine zwi (zi_t (nI_le q (by decide)) ?_)
    refine zi_bind (zwp_mono (m_lays (by omega)) ?_)
    rintro _ rfl
    refine zi_bind (zwp_mono (m_lays (by omega)) ?_)
    rintro _ rfl
    refine zi_bind (zwp_mono (m_lays (by omega)) ?_)
    rintro _ rfl
    refine zi_bind (zwp_mono (m_lays (by omega)) ?_)
    rintro _ rfl
    refine zi_bind (zwp_mono (m_lays (by omega)) ?_)
    rintro _ rfl
    exact zwi ⟨rfl, rfl, _, rfl, rfl, ((((h.lay (by omega)).lay (by omega)).lay (by omega)).lay (by omega)).lay (by omega)⟩
  · refine zi_f (nI_ge (by omega) (by omega)) (zwi (zi_f (nI_ge (by omega) (by omega)) ?_))
    exact zwi ⟨rfl, rfl, sz, rfl, rfl, h⟩
