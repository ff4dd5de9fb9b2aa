/-! ACTS THAT ARE KEPT -/
theorem NowR.cg {P : Pl} (hP : plOk P) {hr pn wl : Nat} {ncell nsore nheld nlead rows ncell' nsore' nheld' nlead' rows' : Nat → Int32} (h : NowR P hr pn wl ncell nsore nheld nlead rows) (h1 : ∀ f, f < 8 → ncell' f = ncell f) (h2 : ∀ f, f < 8 → nsore' f = nsore f) (h3 : ∀ f, f < 8 → nheld' f = nheld f) (h4 : ∀ f, f < qF P → nlead' f = nI 0) (h5 : ∀ k, k < 70 → rows' k = rows k) : NowR P hr pn wl ncell' nsore' nheld' nlead' rows' := by
  have hF := hP.2.2.2.2.1
  have h0 := h.fr hP h5
  obtain ⟨a1, a2, a3, a4, a5, a6, a7, a8, a9⟩ := h0
  refine ⟨rRow_cg a1 (fun f hf => (h1 f (by omega)).symm) (fun f hf => (h2 f (by omega)).symm) (fun f hf => (h3 f (by omega)).symm), a2, a3, a4, a5, fun f hf => by rw [h1 f (by omega)]; exact a6 f hf, fun f hf => by rw [h3 f (by omega)]; exact a7 f hf, fun f hf => by rw [h2 f (by omega)]; exact a8 f hf, h4⟩
/-- a row of the class's diary -/
def svd (drows : Nat → Int32) (o hr pn wl : Nat) : Prop := drows o = nI hr ∧ drows (o + 1) = nI pn ∧ drows (o + 2) = (lN wl).toInt32 ∧ drows (o + 3) = (((lN wl).toUInt64 >>> ((32 : Int32).toInt64.toUInt64 &&& Int64.toUInt64 63)).toInt64).toInt32
def svR (P : Pl) (drows : Nat → Int32) (o : Nat) (mk : Nat → Int32) : Prop := ∃ hr pn wl, svd drows o hr pn wl ∧ NowR P hr pn wl (fun j => drows (o + 4 + j)) (fun j => drows (o + 12 + j)) (fun j => drows (o + 20 + j)) (fun _ => nI 0) mk
theorem svR_cg {P : Pl} (hP : plOk P) {drows drows' mk mk' : Nat → Int32} {o : Nat} (h : svR P drows o mk) (h1 : ∀ k, k < 28 → drows' (o + k) = drows (o + k)) (h2 : ∀ k, k < 70 → mk' k = mk k) : svR P drows' o mk' := by
  obtain ⟨hr, pn, wl, ⟨s0, s1, s2, s3⟩, hN⟩ := h
  refine ⟨hr, pn, wl, ⟨?_, ?_, ?_, ?_⟩, hN.cg hP (fun f hf => ?_) (fun f hf => ?_) (fun f hf => ?_) (fun _ _ => rfl) h2⟩
  · rw [← s0]; exact h1 0 (by omega)
  · rw [← s1]; exact h1 1 (by omega)
  · rw [← s2]; exact h1 2 (by omega)
  · rw [← s3]; exact h1 3 (by omega)
  · show drows' (o + 4 + f) = drows (o + 4 + f)
    rw [show o + 4 + f = o + (4 + f) by omega]; exact h1 _ (by omega)
  · show drows' (o + 12 + f) = drows (o + 12 + f)
    rw [show o + 12 + f = o + (12 + f) by omega]; exact h1 _ (by omega)
  · show drows' (o + 20 + f) = drows (o + 20 + f)
    rw [show o + 20 + f = o + (20 + f) by omega]; exact h1 _ (by omega)
/-- the acts that are kept, in the class's ring and in the reference's row -/
def DiaR (P : Pl) (nx na : Nat) (drows mkept : Nat → Int32) : Prop := nx < 40 ∧ na ≤ 40 ∧ ∀ i, i < na → svR P drows (28 * ((nx + 40 - na + i) % 40)) (fun k => mkept (70 * i + k))
def naN (na : Nat) : Nat := if na < 40 then na + 1 else 40
theorem zi_cpg {α : Type} {sp dp n n0 n1 : Nat} {sp' dp' n' : Int32} {o : Option α} {Q : α → Prop} (e1 : sp' = nI sp) (e2 : dp' = nI dp) (e3 : n' = nI n) (h1 : sp + n ≤ n0) (h2 : dp + n ≤ n1) (h3 : n0 < 2 ^ 31) (h4 : n1 < 2 ^ 31) (q : zwp o Q) : zwp (zcpg sp' dp' n' n0 n1 o) Q := by
  rw [e1, e2, e3, zcpg_ok h1 h2 h3 h4]; exact q
theorem c_keep {nx na hr pn wl : Nat} {drows ncell nsore nheld : Nat → Int32} (hx : nx < 40) (ha : na ≤ 40) : zwp (f_X0_keep (nI na) (nI nx) drows ncell nheld (nI hr) (nI pn) nsore (lN wl)) (fun r => r.1 = nI (naN na) ∧ r.2.1 = nI ((nx + 1) % 40) ∧ svd r.2.2 (28 * nx) hr pn wl ∧ (∀ j, j < 8 → r.2.2 (28 * nx + 4 + j) = ncell j) ∧ (∀ j, j < 8 → r.2.2 (28 * nx + 12 + j) = nsore j) ∧ (∀ j, j < 8 → r.2.2 (28 * nx + 20 + j) = nheld j) ∧ ∀ k, k < 28 * nx ∨ 28 * nx + 28 ≤ k → r.2.2 k = drows k) := by
  unfold f_X0_keep
  have e0 : nI nx * 28 = nI (28 * nx) := by rw [show (28 : Int32) = nI 28 from rfl, pk_mul, Nat.mul_comm]
  have hacts : (if nI na + 1 < 40 then nI na + 1 else (40 : Int32)) = nI (naN na) := by
    unfold naN
    rw [nI_1, show (40 : Int32) = nI 40 from rfl]
    by_cases h : na + 1 < 40
    · rw [if_pos (nI_lt h (by decide)), if_pos (by omega)]
    · rw [if_neg (nI_nlt (by omega) (by omega))]
      by_cases h2 : na < 40
      · rw [if_pos h2]; congr 1; omega
      · rw [if_neg h2]
  have hnext : nI nx + 1 - (nI nx + 1) / 40 * 40 = nI ((nx + 1) % 40) := by rw [nI_1, show (40 : Int32) = nI 40 from rfl, pk_rem (by omega) (by decide) (by decide)]
  rw [e0, hacts, hnext]
  have ho : 28 * nx + 28 ≤ 1120 := by omega
  generalize 28 * nx = o at ho ⊢
  unfold f_X8_saveTo
  have e1 : nI o + 1 = nI (o + 1) := nI_1 o
  have e2 : nI o + 2 = nI (o + 2) := by rw [show (2 : Int32) = nI 2 from rfl, nI_add]
  have e3 : nI o + 3 = nI (o + 3) := by rw [show (3 : Int32) = nI 3 from rfl, nI_add]
  have e4 : nI o + 4 = nI (o + 4) := by rw [show (4 : Int32) = nI 4 from rfl, nI_add]
  have e5 : nI (o + 4) + 8 = nI (o + 12) := by rw [show (8 : Int32) = nI 8 from rfl, nI_add]
  have e6 : nI (o + 4) + 16 = nI (o + 20) := by rw [show (16 : Int32) = nI 16 from rfl, nI_add]
  have e7 : nI o + 28 = nI (o + 28) := by rw [show (28 : Int32) = nI 28 from rfl, nI_add]
  rw [e1, e2, e3, e4, e5, e6, e7]
  refine zi_bind (zi_f (nI_pos (by omega)) (zi_t (nI_le (by omega) (by omega)) ?_))
  rw [zbnd_nI (by omega) (by decide), zbnd_nI (by omega) (by decide), zbnd_nI (by omega) (by decide), zbnd_nI (by omega) (by decide), nI_clamp (by omega), nI_clamp (by omega), nI_clamp (by omega), nI_clamp (by omega), nI_clamp (by omega), nI_clamp (by omega), nI_clamp (by omega)]
  refine zi_cpg (sp := 0) (n := 8) rfl rfl rfl (by omega) (by omega) (by decide) (by decide) ?_
  refine zi_cpg (sp := 0) (n := 8) rfl rfl rfl (by omega) (by omega) (by decide) (by decide) ?_
  refine zi_cpg (sp := 0) (n := 8) rfl rfl rfl (by omega) (by omega) (by decide) (by decide) ?_
  refine zwi (zwi ?_)
  refine ⟨rfl, rfl, ⟨?_, ?_, ?_, ?_⟩, fun j hj => ?_, fun j hj => ?_, fun j hj => ?_, fun k hk => ?_⟩
  · dsimp only; rw [pk_cpy_out (by omega), pk_cpy_out (by omega), pk_cpy_out (by omega), pk_un (by omega), pk_un (by omega), pk_un (by omega), pk_us]
  · dsimp only; rw [pk_cpy_out (by omega), pk_cpy_out (by omega), pk_cpy_out (by omega), pk_un (by omega), pk_un (by omega), pk_us]
  · dsimp only; rw [pk_cpy_out (by omega), pk_cpy_out (by omega), pk_cpy_out (by omega), pk_un (by omega), pk_us]
  · dsimp only; rw [pk_cpy_out (by omega), pk_cpy_out (by omega), pk_cpy_out (by omega), pk_us]
  · dsimp only; rw [pk_cpy_out (by omega), pk_cpy_out (by omega), pk_cpy_in (by omega) (by omega)]; congr 1; omega
  · dsimp only; rw [pk_cpy_out (by omega), pk_cpy_in (by omega) (by omega)]; congr 1; omega
  · dsimp only; rw [pk_cpy_in (by omega) (by omega)]; congr 1; omega
  · dsimp only; rw [pk_cpy_out (by omega), pk_cpy_out (by omega), pk_cpy_out (by omega), pk_un (by omega), pk_un (by omega), pk_un (by omega), pk_un (by omega)]
theorem m_keeps {na : Nat} {mkept rows : Nat → Int32} (ha : na ≤ 40) : zwp (f_X12_keeps (nI na) mkept rows) (fun r => r.1 = nI (naN na) ∧ (∀ k, k < 70 → r.2 (70 * (naN na - 1) + k) = rows k) ∧ ∀ i k, i < naN na - 1 → k < 70 → r.2 (70 * i + k) = mkept (70 * (if na < 40 then i else i + 1) + k)) := by
  unfold f_X12_keeps
  refine zi_bind (zwp_mono (Q := fun r => r.1 = nI (naN na - 1) ∧ ∀ i k, i < naN na - 1 → k < 70 → r.2 (70 * i + k) = mkept (70 * (if na < 40 then i else i + 1) + k)) ?_ ?_)
  · by_cases h : na = 40
    · subst h
      refine zi_t rfl ?_
      refine zl_bind (P := fun i a => ∃ g, a = (nI (70 + i), g) ∧ (∀ k, k < i → g k = mkept (k + 70)) ∧ ∀ k, i ≤ k → g k = mkept k) (Post := fun g => ∀ k, k < 2730 → g k = mkept (k + 70)) 2730 (by decide) ⟨mkept, rfl, fun k hk => by omega, fun k _ => rfl⟩ ?_ ?_ ?_
      · rintro i hi _ ⟨g, rfl, h1, h2⟩
        rw [show (2800 : Int32) = nI 2800 from rfl]
        refine zi_f (nI_ge (by omega) (by decide)) ?_
        rw [show (70 : Int32) = nI 70 from rfl, pk_sub (by omega), zbnd_nI (by omega) (by decide), zbnd_nI (by omega) (by decide), nI_clamp (by omega), nI_clamp (by omega), nI_1]
        refine zwi ⟨_, rfl, fun k hk => ?_, fun k hk => ?_⟩
        · by_cases he : k = 70 + i - 70
          · subst he; rw [pk_us, h2 _ (by omega)]; congr 1; omega
          · rw [pk_un he]; exact h1 k (by omega)
        · rw [pk_un (by omega)]; exact h2 k (by omega)
      · rintro _ ⟨g, rfl, h1, h2⟩
        exact zi_t (by decide) (zwi h1)
      · intro g hg
        refine zwi ⟨rfl, fun i k hi hk => ?_⟩
        have hi2 : i < 39 := hi
        dsimp only
        rw [hg _ (by omega), if_neg (by omega)]
        congr 1
        omega
    · refine zi_f (fun q => h (by rw [show (40 : Int32) = nI 40 from rfl, nI_eq (by omega) (by decide)] at q; exact q)) (zwi ?_)
      have hn : na < 40 := by omega
      refine ⟨?_, fun i k hi hk => ?_⟩
      · dsimp only; congr 1; unfold naN; rw [if_pos hn]; omega
      · dsimp only; rw [if_pos hn]
  · rintro ⟨j2, j3⟩ ⟨hj, h2⟩
    dsimp only at hj h2
    subst hj
    have hb : naN na - 1 < 40 := by unfold naN; split <;> omega
    have hb1 : naN na - 1 + 1 = naN na := by unfold naN; split <;> omega
    generalize hm : naN na - 1 = m at hb hb1 h2 ⊢
    dsimp only
    rw [show (70 : Int32) = nI 70 from rfl, pk_mul]
    refine zl_bind (P := fun i a => ∃ g, a = (nI i, g) ∧ (∀ k, k < i → g (70 * m + k) = rows k) ∧ ∀ k, k < 70 * m → g k = j3 k) (Post := fun g => (∀ k, k < 70 → g (70 * m + k) = rows k) ∧ ∀ k, k < 70 * m → g k = j3 k) 70 (by decide) ⟨j3, rfl, fun k hk => by omega, fun k _ => rfl⟩ ?_ ?_ ?_
    · rintro i hi _ ⟨g, rfl, h3, h4⟩
      refine zi_f (nI_ge hi (by decide)) ?_
      rw [nI_add, zbnd_nI (by omega) (by decide), zbnd_nI (by omega) (by decide), nI_clamp (by omega), nI_clamp (by omega), nI_1]
      refine zwi ⟨_, rfl, fun k hk => ?_, fun k hk => ?_⟩
      · by_cases he : k = i
        · subst he; rw [pk_us]
        · rw [pk_un (by omega)]; exact h3 k (by omega)
      · rw [pk_un (by omega)]; exact h4 k hk
    · rintro _ ⟨g, rfl, h3, h4⟩
      exact zi_t (nI_le (Nat.le_refl _) (by decide)) (zwi ⟨h3, h4⟩)
    · rintro g ⟨h3, h4⟩
      refine zwi ⟨?_, h3, fun i k hi hk => ?_⟩
      · show nI m + 1 = _
        rw [nI_1, hb1]
      · dsimp only
        rw [h4 _ (by omega)]
        exact h2 i k hi hk
/-- one more act: the ring and the row stay alike -/
theorem dia_keep {P : Pl} (hP : plOk P) {nx na hr pn wl : Nat} {drows drows' mkept mkept' ncell nsore nheld nlead rows : Nat → Int32} (hD : DiaR P nx na drows mkept) (hN : NowR P hr pn wl ncell nsore nheld nlead rows) (h1 : svd drows' (28 * nx) hr pn wl) (h2 : ∀ j, j < 8 → drows' (28 * nx + 4 + j) = ncell j) (h3 : ∀ j, j < 8 → drows' (28 * nx + 12 + j) = nsore j) (h4 : ∀ j, j < 8 → drows' (28 * nx + 20 + j) = nheld j) (h5 : ∀ k, k < 28 * nx ∨ 28 * nx + 28 ≤ k → drows' k = drows k) (h6 : ∀ k, k < 70 → mkept' (70 * (naN na - 1) + k) = rows k) (h7 : ∀ i k, i < naN na - 1 → k < 70 → mkept' (70 * i + k) = mkept (70 * (if na < 40 then i else i + 1) + k)) : DiaR P ((nx + 1) % 40) (naN na) drows' mkept' := by
  obtain ⟨hx, ha, hold⟩ := hD
  have hb : naN na ≤ 40 := by unfold naN; split <;> omega
  refine ⟨by omega, hb, fun i hi => ?_⟩
  by_cases he : i = naN na - 1
  · have es : 28 * (((nx + 1) % 40 + 40 - naN na + i) % 40) = 28 * nx := by
      have hcase : (na < 40 ∧ naN na = na + 1) ∨ (na = 40 ∧ naN na = 40) := by
        by_cases h : na < 40
        · exact Or.inl ⟨h, if_pos h⟩
        · exact Or.inr ⟨by omega, if_neg h⟩
      rcases hcase with ⟨h, e⟩ | ⟨h, e⟩ <;> rw [e] at he ⊢ <;> omega
    rw [es]
    refine ⟨hr, pn, wl, h1, hN.cg hP (fun f hf => h2 f hf) (fun f hf => h3 f hf) (fun f hf => h4 f hf) (fun _ _ => rfl) (fun k hk => ?_)⟩
    rw [he]; exact h6 k hk
  · have hi2 : i < naN na - 1 := by omega
    by_cases hn : na < 40
    · have e40 : naN na = na + 1 := if_pos hn
      rw [e40] at hi he hi2 ⊢
      have es : ((nx + 1) % 40 + 40 - (na + 1) + i) % 40 = (nx + 40 - na + i) % 40 := by omega
      rw [es]
      refine svR_cg hP (hold i (by omega)) (fun k hk => h5 _ (by omega)) (fun k hk => ?_)
      have := h7 i k (by omega) hk
      rw [if_pos hn] at this
      exact this
    · have hn40 : na = 40 := by omega
      subst hn40
      have e40 : naN 40 = 40 := rfl
      rw [e40] at hi he hi2 ⊢
      have es : ((nx + 1) % 40 + 40 - 40 + i) % 40 = (nx + 40 - 40 + (i + 1)) % 40 := by omega
      rw [es]
      refine svR_cg hP (hold (i + 1) (by omega)) (fun k hk => h5 _ (by omega)) (fun k hk => ?_)
      exact h7 i k (by omega) hk
