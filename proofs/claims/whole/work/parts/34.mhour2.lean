/-- the reference's plan is the class's -/
def mPl (P : Pl) (wayLong ways light code : Nat → Int32) (ga ha : Int32) : Prop := (∀ f, f < qF P → wayLong f = qSt P f) ∧ (∀ f, f < qF P → ∀ k, k < (qSt P f).toNatClampNeg → ways (f * 8 + k) = qWy P (f * 8 + k)) ∧ (∀ k, k < qNl P → light k = qLt P k) ∧ rCode (qGc P) (qGn P) code ga ∧ rCode (qHc P) (qHn P) code ha
/-- a town at an hour in the reference's row from b on -/
def rRow (F b : Nat) (rows : Nat → Int32) (hr : Nat) (cell sore held : Nat → Int32) (ld : Nat → Nat) (wl : Nat) : Prop := rows b = nI hr ∧ (∀ f, f < F → rows (b + 1 + f) = cell f) ∧ (∀ f, f < F → rows (b + 9 + f) = sore f) ∧ (∀ f, f < F → rows (b + 17 + f) = held f) ∧ (∀ f, f < F → rows (b + 25 + f) = nI (ld f)) ∧ (∀ c, c < 36 → rows (b + 33 + c) = b2 (wl.testBit c))
theorem m_lightAt {P : Pl} {light : Nat → Int32} {hr : Nat} (hl : qNl P ≤ 8) (he : ∀ k, k < qNl P → light k = qLt P k) (hh : hr < 2 ^ 31) : f_X12_lightAt (nI hr) light (nI (qNl P)) = some (sLight P hr) := by
  unfold f_X12_lightAt sLight
  by_cases h : qNl P = 0
  · rw [h]; rfl
  · have h0 : 0 < qNl P := by omega
    have hm : hr % qNl P < qNl P := Nat.mod_lt _ h0
    rw [if_neg (nI_ne0 h0 (by omega)), if_neg h, znz_nI h0 (by omega), pk_rem hh h0 (by omega), zbnd_nI (by omega) (by decide), nI_clamp (by omega), he _ hm]
/-- the light that is told: by the plan, or as it is given -/
def dlIs (P : Pl) (hr : Nat) (dullAs : Int32) (dl : Bool) : Prop := (dullAs = -1 ∧ dl = sDull P hr) ∨ (dullAs = 1 ∧ dl = true) ∨ (dullAs = 0 ∧ dl = false)
theorem m_isDull {P : Pl} {light rows : Nat → Int32} {hr b : Nat} {dullAs : Int32} {dl : Bool} (hl : qNl P ≤ 8) (he : ∀ k, k < qNl P → light k = qLt P k) (hh : hr < 2 ^ 31) (hb : b ≤ 70) (hrow : rows b = nI hr) (hd : dlIs P hr dullAs dl) : f_X12_isDull (nI b) (qDb P) dullAs light (nI (qNl P)) rows = some (b2 dl) := by
  unfold f_X12_isDull
  rcases hd with ⟨rfl, rfl⟩ | ⟨rfl, rfl⟩ | ⟨rfl, rfl⟩
  · rw [if_pos rfl, ix_0, zbnd_nI (by omega) (by decide), nI_clamp (by omega), hrow, m_lightAt hl he hh]
    show (if qDb P ≤ sLight P hr then some (0 : Int32) else some 1) = _
    rw [b2_iten]
    unfold sDull
    by_cases h : sLight P hr < qDb P
    · have : ¬ qDb P ≤ sLight P hr := by rw [fa_le]; rw [fa_lt] at h; omega
      simp [h, this]
    · have : qDb P ≤ sLight P hr := fa_of_nlt h
      simp [h, this]
  · rfl
  · rfl
theorem m_atCell {F b : Nat} {rows cell : Nat → Int32} {c : Int32} (hF : F ≤ 8) (hb : b ≤ 70) (hr : ∀ f, f < F → rows (b + 1 + f) = cell f) : f_X12_atCell (nI b) c (nI F) rows = some (nI (bts (fun f => cell f == c) F)) := by
  unfold f_X12_atCell
  refine (zl_run (s := fun k => (nI (bts (fun f => cell f == c) k), nI k)) (b := nI (bts (fun f => cell f == c) F)) F (by omega) rfl ?_ ?_).trans rfl
  · intro k hk
    show (if nI F ≤ nI k then _ else _) = _
    rw [if_neg (nI_ge hk (by omega)), ix_1, zbnd_nI (by omega) (by decide), nI_clamp (by omega), hr k hk]
    by_cases h : cell k = c
    · rw [if_pos h]
      show some (Sum.inl (nI (bts (fun f => cell f == c) k) ||| ((1 : Int32) <<< (nI k &&& 31)), nI k + 1)) = _
      rw [bts_step (by omega) (by simp [h]), nI_1]
    · rw [if_neg h]
      show some (Sum.inl (nI (bts (fun f => cell f == c) k) ||| (0 : Int32), nI k + 1)) = _
      rw [nI_1, bts_stay (by simp [h]), show (0 : Int32) = nI 0 from rfl, fa_or, Nat.or_zero]
  · show (if nI F ≤ nI F then _ else _) = _
    rw [if_pos (nI_le (Nat.le_refl _) (by omega))]
theorem m_bits {v : Nat} (hv : v < 256) : f_X12_bits (nI v) = some (nI (fb_ct v.testBit 8)) := by
  unfold f_X12_bits
  refine (zl_run (s := fun k => (nI (fb_ct v.testBit k), nI k)) (b := nI (fb_ct v.testBit 8)) 8 (by decide) rfl ?_ rfl).trans rfl
  intro k hk
  show (if nI 8 ≤ nI k then _ else _) = _
  rw [if_neg (nI_ge hk (by omega)), pk_shrN (by omega) _ k (s_l k (by omega)), show (1 : Int32) = nI (2 ^ 1 - 1) from rfl, fa_mask, nI_add, show nI (2 ^ 1 - 1) = nI 1 from rfl, nI_add, fb_ct_succ]
  have e : v / 2 ^ k % 2 ^ 1 = if v.testBit k = true then 1 else 0 := by
    rw [Nat.testBit_eq_decide_div_mod_eq]
    have : v / 2 ^ k % 2 < 2 := Nat.mod_lt _ (by decide)
    by_cases h : v / 2 ^ k % 2 = 1
    · simp [h]
    · simp [h]
      omega
  rw [e]
theorem fb_ct_cut {p : Nat → Bool} {F : Nat} : ∀ d, fb_ct (fun k => decide (k < F) && p k) (F + d) = fb_ct p F
  | 0 => fb_ct_cong (fun k hk => by simp [show k < F by omega])
  | d + 1 => by
    rw [show F + (d + 1) = (F + d) + 1 from rfl, fb_ct_succ, fb_ct_cut d]
    simp
    omega
theorem bts_ct {p : Nat → Bool} {F : Nat} (hF : F ≤ 8) : fb_ct (bts p F).testBit 8 = fb_ct p F := by
  rw [show (8 : Nat) = F + (8 - F) by omega, ← fb_ct_cut (p := p) (8 - F)]
  exact fb_ct_cong (fun k _ => bts_bit p F k)
theorem bts_256 {p : Nat → Bool} {F : Nat} (hF : F ≤ 8) : bts p F < 256 := by
  have := bts_lt p F
  have h2 : 2 ^ F ≤ 2 ^ 8 := Nat.pow_le_pow_right (by decide) hF
  omega
theorem m_withIt {F b f : Nat} {rows cell : Nat → Int32} (hF : F ≤ 8) (hf : f < F) (hb : b ≤ 70) (hr : ∀ f, f < F → rows (b + 1 + f) = cell f) : f_X12_withIt (nI b) (nI f) (nI F) rows = some (nI (sWith F cell f)) := by
  unfold f_X12_withIt
  rw [ix_1, zbnd_nI (by omega) (by decide), nI_clamp (by omega), hr f hf, m_atCell hF hb hr]
  show Option.bind (f_X12_bits (nI _)) _ = _
  rw [m_bits (bts_256 hF), bts_ct hF]
  show some (nI _ - 1) = _
  rw [nI_m1 _ (sWith_pos hf)]
  rfl
theorem m_stepOf {P : Pl} (hP : plOk P) {wayLong ways rows : Nat → Int32} {b f hr l : Nat} (hf : f < qF P) (hb : b ≤ 70) (hw : ∀ f, f < qF P → wayLong f = qSt P f) (hy : ∀ f, f < qF P → ∀ k, k < (qSt P f).toNatClampNeg → ways (f * 8 + k) = qWy P (f * 8 + k)) (hr0 : rows b = nI hr) (hr1 : rows (b + 25 + f) = nI l) (hh : hr < 2 ^ 30) (hl : l < 2 ^ 30) : f_X12_stepOf (nI b) (nI f) rows wayLong ways = some (sStep P f (hr + l)) := by
  obtain ⟨s, hs, h0, h8, -⟩ := hP.2.2.2.2.2.2.1 f hf
  have hF := hP.2.2.2.2.1
  have hm : (hr + l) % s < s := Nat.mod_lt _ h0
  unfold f_X12_stepOf sStep
  rw [ix_0, ix_25, zbnd_nI (by omega) (by decide), zbnd_nI (by omega) (by decide), zbnd_nI (by omega) (by decide), nI_clamp (show f < 2 ^ 31 by omega), nI_clamp (show b < 2 ^ 31 by omega), nI_clamp (show b + 25 + f < 2 ^ 31 by omega), hr0, hr1, hw f hf, hs, nI_add, znz_nI h0 (by omega), pk_rem (by omega) h0 (by omega), show (8 : Int32) = nI 8 from rfl, pk_mul, nI_add, zbnd_nI (by omega) (by decide), nI_clamp (by omega), nI_clamp (by omega)]
  have := hy f hf ((hr + l) % s) (by rw [hs, nI_clamp (by omega)]; exact hm)
  rw [← this, Nat.mul_comm]
theorem m_tells {P : Pl} (hP : plOk P) {wayLong ways light code rows told cell sore held : Nat → Int32} {ga ha : Int32} {b f hr wl : Nat} {ld : Nat → Nat} (hm : mPl P wayLong ways light code ga ha) (hf : f < qF P) (hb : b ≤ 70) (hR : rRow (qF P) b rows hr cell sore held ld wl) (hh : hr < 2 ^ 30) (hl : ∀ f, f < qF P → ld f < 2 ^ 30) : zwp (f_X12_tells (nI b) (nI f) (nI (qF P)) light (nI (qNl P)) rows told wayLong ways) (fun t => ∀ j, j < 6 → t (trv j) = sVals P hr (ld f) cell sore held f j) := by
  have hF := hP.2.2.2.2.1
  obtain ⟨r0, r1, r2, r3, r4, r5⟩ := hR
  unfold f_X12_tells
  refine zi_beq (m_stepOf hP hf hb hm.1 hm.2.1 r0 (r4 f hf) hh (hl f hf)) ?_
  rw [ix_9, ix_0, ix_17, zbnd_nI (by omega) (by decide), zbnd_nI (by omega) (by decide), nI_clamp (show b < 2 ^ 31 by omega), r0]
  refine zi_beq (m_lightAt hP.2.2.2.2.2.1 hm.2.2.1 (by omega)) ?_
  refine zi_beq (m_withIt hF hf hb r1) ?_
  rw [zbnd_nI (by omega) (by decide), zbnd_nI (by omega) (by decide), nI_clamp (show b + 9 + f < 2 ^ 31 by omega), nI_clamp (show b + 17 + f < 2 ^ 31 by omega), r2 f hf, r3 f hf]
  refine zwi ?_
  intro j hj
  unfold sVals trv
  have hc : j = 0 ∨ j = 1 ∨ j = 2 ∨ j = 3 ∨ j = 4 ∨ j = 5 := by omega
  rcases hc with rfl | rfl | rfl | rfl | rfl | rfl <;> simp [upd]
theorem m_isGoing {P : Pl} (hP : plOk P) {wayLong ways light code rows told pile cell sore held : Nat → Int32} {ga ha : Int32} {b f hr wl : Nat} {ld : Nat → Nat} (hm : mPl P wayLong ways light code ga ha) (hf : f < qF P) (hb : b ≤ 70) (hR : rRow (qF P) b rows hr cell sore held ld wl) (hh : hr < 2 ^ 30) (hl : ∀ f, f < qF P → ld f < 2 ^ 30) : zwp (f_X12_isGoing (nI b) (nI f) code (nI (qF P)) ga light (nI (qNl P)) pile rows told wayLong ways) (fun r => r.1 = b2 (sWants P hr (ld f) cell sore held f)) := by
  have hF := hP.2.2.2.2.1
  have hG := hP.2.2.2.2.2.2.2.1
  unfold f_X12_isGoing sWants
  rcases hm.2.2.2.1 with ⟨h0, hg⟩ | ⟨h0, a, hg, hc⟩
  · rw [hg, h0]
    refine zi_t rfl ?_
    rw [ix_9, zbnd_nI (by omega) (by decide), nI_clamp (by omega), hR.2.2.1 f hf]
    by_cases hs : sore f < 10
    · refine zi_f (fun hc => ?_) (zwi ?_)
      · rw [fa_le] at hc; rw [fa_lt] at hs; omega
      · simp [hs, b2]
    · refine zi_t (fa_of_nlt hs) (zwi ?_)
      simp [hs, b2]
  · have hn : ¬ qGn P = 0 := by omega
    have ha : ¬ ga = -1 := by
      intro q
      obtain ⟨pos, hp0, hpn, -, hit⟩ := hc
      have := pos_lt hit (qGn P) 0 (by omega)
      rw [hg] at q
      have h2 : (nI a).toInt = -1 := by rw [q]; decide
      rw [nI_toInt (by omega)] at h2
      omega
    refine zi_f ha ?_
    refine zi_bind (zwp_mono (m_tells hP hm hf hb hR hh hl) ?_)
    intro t ht
    rw [hg]
    refine zi_bind (zwp_mono (m_reckons hG h0 hc ht) ?_)
    rintro ⟨r, o⟩ hrv
    dsimp only at hrv
    show zwp (if r ≤ 0 then _ else _) _
    rw [hrv, if_neg hn]
    by_cases hs : (0 : Int32) < rVal (sVals P hr (ld f) cell sore held f) (qGc P) (qGn P)
    · refine zi_f (fun hc => ?_) (zwi ?_)
      · rw [fa_le] at hc; rw [fa_lt] at hs; omega
      · simp [hs, b2]
    · refine zi_t (fa_of_nlt hs) (zwi ?_)
      simp [hs, b2]
theorem bounded_eq (v : Int32) : (if (0 : Int32) ≤ v then (if v ≤ 9 then some v else some 9) else some 0) = some (if (0 : Int32) < (if v < 9 then v else 9) then (if v < 9 then v else 9) else 0) := by
  have e0 : ((0 : Int32)).toInt = 0 := by decide
  have e9 : ((9 : Int32)).toInt = 9 := by decide
  by_cases h1 : (0 : Int32) ≤ v
  · rw [if_pos h1]
    by_cases h2 : v < 9
    · have h3 : v ≤ 9 := by rw [fa_le]; rw [fa_lt] at h2; omega
      rw [if_pos h3, if_pos h2]
      by_cases h4 : (0 : Int32) < v
      · rw [if_pos h4]
      · rw [if_neg h4]
        congr 1
        rw [fa_eq]; rw [fa_lt] at h4; rw [fa_le] at h1; omega
    · rw [if_neg h2, show (if (0 : Int32) < 9 then (9 : Int32) else 0) = 9 from rfl]
      by_cases h3 : v ≤ 9
      · rw [if_pos h3]
        congr 1
        rw [fa_eq]; rw [fa_lt] at h2; rw [fa_le] at h3; omega
      · rw [if_neg h3]
  · rw [if_neg h1]
    have h2 : v < 9 := by rw [fa_lt]; rw [fa_le] at h1; omega
    have h4 : ¬ (0 : Int32) < v := by rw [fa_lt]; rw [fa_le] at h1; omega
    rw [if_pos h2, if_neg h4]
theorem m_hurtsBy {P : Pl} (hP : plOk P) {wayLong ways light code rows told pile cell sore held : Nat → Int32} {ga ha : Int32} {b f hr wl : Nat} {ld : Nat → Nat} (hm : mPl P wayLong ways light code ga ha) (hf : f < qF P) (hb : b ≤ 70) (hR : rRow (qF P) b rows hr cell sore held ld wl) (hh : hr < 2 ^ 30) (hl : ∀ f, f < qF P → ld f < 2 ^ 30) : zwp (f_X12_hurtsBy (nI b) (nI f) code (nI (qF P)) ha light (nI (qNl P)) pile rows told wayLong ways) (fun r => r.1 = sHurt P hr (ld f) cell sore held f) := by
  have hG := hP.2.2.2.2.2.2.2.2
  unfold f_X12_hurtsBy sHurt
  rcases hm.2.2.2.2 with ⟨h0, hg⟩ | ⟨h0, a, hg, hc⟩
  · rw [hg, h0]
    exact zi_t rfl (zwi rfl)
  · have hn : ¬ qHn P = 0 := by omega
    have ha : ¬ ha = -1 := by
      intro q
      obtain ⟨pos, hp0, hpn, -, hit⟩ := hc
      have := pos_lt hit (qHn P) 0 (by omega)
      rw [hg] at q
      have h2 : (nI a).toInt = -1 := by rw [q]; decide
      rw [nI_toInt (by omega)] at h2
      omega
    refine zi_f ha ?_
    refine zi_bind (zwp_mono (m_tells hP hm hf hb hR hh hl) ?_)
    intro t ht
    rw [hg]
    refine zi_bind (zwp_mono (m_reckons hG h0 hc ht) ?_)
    rintro ⟨r, o⟩ hrv
    dsimp only at hrv
    rw [if_neg hn, ← hrv]
    refine zi_beq (bounded_eq r) (zwi rfl)
theorem m_beside {W H c s : Nat} (hW : 2 ≤ W) (hW6 : W ≤ 6) (hH : H ≤ 6) (hc : c < W * H) (hs : s ≤ 4) : f_X12_beside (nI c) (nI s) (nI H) (nI W) = some (enc (sBeside W H c (nI s))) := by
  have hWH : W * H ≤ 36 := Nat.mul_le_mul hW6 hH
  have hm : c % W < W := Nat.mod_lt _ (by omega)
  unfold f_X12_beside sBeside
  by_cases h0 : nI s = 0
  · have hs0 : s = 0 := by rw [show (0 : Int32) = nI 0 from rfl, nI_eq (by omega) (by decide)] at h0; exact h0
    subst hs0
    rfl
  by_cases h1 : nI s = 1
  · rw [if_pos h1, if_neg h0, if_pos h1]
    by_cases hq : c < W
    · rw [if_pos (nI_lt hq (by omega)), if_pos hq]; rfl
    · rw [if_neg (nI_nlt (by omega) (by omega)), if_neg hq, pk_sub (by omega)]; rfl
  by_cases h2 : nI s = 2
  · rw [if_neg h1, if_pos h2, if_neg h0, if_neg h1, if_pos h2, znz_nI (by omega) (by omega), pk_rem (by omega) (by omega) (by omega), nI_1, nI_1]
    by_cases hq : c % W + 1 < W
    · rw [if_neg (nI_ge hq (by omega)), if_pos hq]; rfl
    · rw [if_pos (nI_le (by omega) (by omega)), if_neg hq]; rfl
  by_cases h3 : nI s = 3
  · rw [if_neg h1, if_neg h2, if_pos h3, if_neg h0, if_neg h1, if_neg h2, if_pos h3, znz_nI (by omega) (by omega), pk_div (by omega) (by omega) (by omega), nI_1, nI_add]
    have hd : (c + W) / W = c / W + 1 := Nat.add_div_right c (by omega)
    have hiff : c + W < W * H ↔ c / W + 1 < H := by rw [← hd, Nat.div_lt_iff_lt_mul (by omega), Nat.mul_comm]
    by_cases hq : c + W < W * H
    · rw [if_neg (nI_ge (hiff.mp hq) (by omega)), if_pos hq]; rfl
    · have : ¬ c / W + 1 < H := fun q => hq (hiff.mpr q)
      have hle : c / W ≤ c := Nat.div_le_self c W
      rw [if_pos (nI_le (by omega) (by omega)), if_neg hq]; rfl
  have h4 : nI s = 4 := by
    have : s = 4 := by
      rw [show (0 : Int32) = nI 0 from rfl, nI_eq (by omega) (by decide)] at h0
      rw [show (1 : Int32) = nI 1 from rfl, nI_eq (by omega) (by decide)] at h1
      rw [show (2 : Int32) = nI 2 from rfl, nI_eq (by omega) (by decide)] at h2
      rw [show (3 : Int32) = nI 3 from rfl, nI_eq (by omega) (by decide)] at h3
      omega
    rw [this]; rfl
  rw [if_neg h1, if_neg h2, if_neg h3, if_pos h4, if_neg h0, if_neg h1, if_neg h2, if_neg h3, znz_nI (by omega) (by omega), pk_rem (by omega) (by omega) (by omega)]
  by_cases hq : 0 < c % W
  · rw [if_neg (nI_nle hq (by omega)), if_pos hq, nI_m1 _ (by have := Nat.mod_le c W; omega)]; rfl
  · have : c % W = 0 := by omega
    rw [this, if_pos (by decide)]; rfl
theorem lesser_eq (x : Int32) : f_X12_lesser 99 x = some (if x < 99 then x else 99) := by
  unfold f_X12_lesser
  by_cases h : x < 99
  · have : x ≤ 99 := by rw [fa_le]; rw [fa_lt] at h; omega
    rw [if_pos this, if_pos h]
  · rw [if_neg h]
    by_cases h2 : x ≤ 99
    · rw [if_pos h2]
      congr 1
      rw [fa_eq]; rw [fa_lt] at h; rw [fa_le] at h2; omega
    · rw [if_neg h2]
/-- nothing beside the row from b on, nor its last place, has changed -/
def rFr (b : Nat) (rows rows' : Nat → Int32) : Prop := ∀ k, k < b ∨ b + 69 ≤ k → rows' k = rows k
theorem rFr_rf {b : Nat} {rows : Nat → Int32} : rFr b rows rows := fun _ _ => rfl
theorem rFr_tr {b : Nat} {r1 r2 r3 : Nat → Int32} (h : rFr b r1 r2) (h2 : rFr b r2 r3) : rFr b r1 r3 := fun k hk => by rw [h2 k hk, h k hk]
theorem rFr_upd {b i : Nat} {v : Int32} {r1 r2 : Nat → Int32} (h : rFr b r1 r2) (h1 : b ≤ i) (h2 : i < b + 69) : rFr b r1 (upd r2 i v) := fun k hk => by rw [pk_un (by omega), h k hk]
theorem rRow_cell {F b f hr wl : Nat} {rows cell sore held : Nat → Int32} {ld : Nat → Nat} {v : Int32} (hF : F ≤ 8) (hf : f < F) (h : rRow F b rows hr cell sore held ld wl) : rRow F b (upd rows (b + 1 + f) v) hr (upd cell f v) sore held ld wl := by
  obtain ⟨r0, r1, r2, r3, r4, r5⟩ := h
  refine ⟨by rw [pk_un (by omega)]; exact r0, fun g hg => ?_, fun g hg => by rw [pk_un (by omega)]; exact r2 g hg, fun g hg => by rw [pk_un (by omega)]; exact r3 g hg, fun g hg => by rw [pk_un (by omega)]; exact r4 g hg, fun c hc => by rw [pk_un (by omega)]; exact r5 c hc⟩
  by_cases he : g = f
  · subst he; rw [pk_us, pk_us]
  · rw [pk_un (by omega), pk_un he]; exact r1 g hg
theorem rRow_sore {F b f hr wl : Nat} {rows cell sore held : Nat → Int32} {ld : Nat → Nat} {v : Int32} (hF : F ≤ 8) (hf : f < F) (h : rRow F b rows hr cell sore held ld wl) : rRow F b (upd rows (b + 9 + f) v) hr cell (upd sore f v) held ld wl := by
  obtain ⟨r0, r1, r2, r3, r4, r5⟩ := h
  refine ⟨by rw [pk_un (by omega)]; exact r0, fun g hg => by rw [pk_un (by omega)]; exact r1 g hg, fun g hg => ?_, fun g hg => by rw [pk_un (by omega)]; exact r3 g hg, fun g hg => by rw [pk_un (by omega)]; exact r4 g hg, fun c hc => by rw [pk_un (by omega)]; exact r5 c hc⟩
  by_cases he : g = f
  · subst he; rw [pk_us, pk_us]
  · rw [pk_un (by omega), pk_un he]; exact r2 g hg
theorem rRow_held {F b f hr wl : Nat} {rows cell sore held : Nat → Int32} {ld : Nat → Nat} {v : Int32} (hF : F ≤ 8) (hf : f < F) (h : rRow F b rows hr cell sore held ld wl) : rRow F b (upd rows (b + 17 + f) v) hr cell sore (upd held f v) ld wl := by
  obtain ⟨r0, r1, r2, r3, r4, r5⟩ := h
  refine ⟨by rw [pk_un (by omega)]; exact r0, fun g hg => by rw [pk_un (by omega)]; exact r1 g hg, fun g hg => by rw [pk_un (by omega)]; exact r2 g hg, fun g hg => ?_, fun g hg => by rw [pk_un (by omega)]; exact r4 g hg, fun c hc => by rw [pk_un (by omega)]; exact r5 c hc⟩
  by_cases he : g = f
  · subst he; rw [pk_us, pk_us]
  · rw [pk_un (by omega), pk_un he]; exact r3 g hg
theorem rRow_hour {F b hr hr' wl : Nat} {rows cell sore held : Nat → Int32} {ld : Nat → Nat} (h : rRow F b rows hr cell sore held ld wl) : rRow F b (upd rows b (nI hr')) hr' cell sore held ld wl := by
  obtain ⟨r0, r1, r2, r3, r4, r5⟩ := h
  exact ⟨pk_us, fun g hg => by rw [pk_un (by omega)]; exact r1 g hg, fun g hg => by rw [pk_un (by omega)]; exact r2 g hg, fun g hg => by rw [pk_un (by omega)]; exact r3 g hg, fun g hg => by rw [pk_un (by omega)]; exact r4 g hg, fun c hc => by rw [pk_un (by omega)]; exact r5 c hc⟩
theorem m_figureGoes {P : Pl} (hP : plOk P) {wayLong ways light code rows told pile cell sore held : Nat → Int32} {ga ha dullAs : Int32} {dl : Bool} {b f hr wl : Nat} {ld : Nat → Nat} (hm : mPl P wayLong ways light code ga ha) (hf : f < qF P) (hb : b ≤ 70) (hR : rRow (qF P) b rows hr cell sore held ld wl) (hh : hr < 2 ^ 30) (hl : ∀ f, f < qF P → ld f < 2 ^ 30) (hd : dlIs P hr dullAs dl) (hc : clOk P cell) : zwp (f_X12_figureGoes (nI b) (nI f) code (qDb P) dullAs (nI (qF P)) ga ha light (nI (qNl P)) pile rows (nI (qH P)) told wayLong ways (nI (qW P))) (fun r => rRow (qF P) b r.2.1 hr (sFig P wl hr ld dl held f (cell, sore)).1 (sFig P wl hr ld dl held f (cell, sore)).2 held ld wl ∧ rFr b rows r.2.1) := by
  have hF := hP.2.2.2.2.1
  have hWH : qW P * qH P ≤ 36 := Nat.mul_le_mul hP.2.1 hP.2.2.2.1
  obtain ⟨c, hc1, hc2⟩ := hc f hf
  obtain ⟨r0, r1, r2, r3, r4, r5⟩ := id hR
  unfold f_X12_figureGoes
  rw [ix_17, zbnd_nI (by omega) (by decide), nI_clamp (show b + 17 + f < 2 ^ 31 by omega), r3 f hf]
  by_cases hq : held f ≤ 0
  · refine zi_t hq ?_
    refine zi_bind (zwp_mono (m_isGoing hP hm hf hb hR hh hl) ?_)
    rintro ⟨r, o1, o2⟩ hr1
    dsimp only at hr1
    refine zi_c (fun h0 => ?_) (fun h0 => ?_)
    · refine zwi ?_
      unfold sFig
      rw [if_pos (Or.inl hq), if_neg (by rw [hr1] at h0; rw [b2_0.mp h0]; decide)]
      exact ⟨hR, rFr_rf⟩
    · unfold sFig
      rw [if_pos (Or.inl hq), if_pos (by rw [hr1] at h0; exact b2_n0 h0)]
      rw [ix_1, zbnd_nI (by omega) (by decide), nI_clamp (show b + 1 + f < 2 ^ 31 by omega), r1 f hf, hc1]
      refine zi_beq (m_stepOf hP hf hb hm.1 hm.2.1 r0 (r4 f hf) hh (hl f hf)) ?_
      obtain ⟨w, hw4, hw⟩ := sStep_ok hP (pl := hr + ld f) hf
      rw [hw]
      refine zi_beq (m_beside hP.1 hP.2.1 hP.2.2.2.1 hc2 hw4) ?_
      unfold sGo
      dsimp only
      rw [hc1, nI_clamp (by omega), hw]
      cases hbs : sBeside (qW P) (qH P) c (nI w) with
      | none => exact zi_t rfl (zwi ⟨hR, rFr_rf⟩)
      | some e =>
        have he := sBeside_lt (by have := hP.1; omega) hc2 hbs
        refine zi_f (fun q => by have := (enc_none (o := some e) (fun c q => by injection q with q; omega)).mp q; cases this) ?_
        show zwp (zbnd (nI b + 33 + nI e) 140 _) _
        rw [ix_33, zbnd_nI (by omega) (by decide), show enc (some e) = nI e from rfl, ix_33, nI_clamp (show b + 33 + e < 2 ^ 31 by omega), r5 e (by omega)]
        cases hq : wl.testBit e with
        | false =>
          refine zi_t rfl ?_
          rw [zbnd_nI (by omega) (by decide)]
          refine zwi ?_
          simp only [hq]
          exact ⟨rRow_cell hF hf hR, rFr_upd rFr_rf (by omega) (by omega)⟩
        | true =>
          refine zi_f (by decide) (zwi ?_)
          simp only [hq]
          exact ⟨hR, rFr_rf⟩
  · refine zi_f hq ?_
    refine zi_beq (m_isDull hP.2.2.2.2.2.1 hm.2.2.1 (by omega) hb r0 hd) ?_
    cases hdl : dl with
    | false =>
      refine zi_t rfl ?_
      rw [ix_9, zbnd_nI (by omega) (by decide), nI_clamp (show b + 9 + f < 2 ^ 31 by omega), r2 f hf]
      refine zi_bind (zwp_mono (m_hurtsBy hP hm hf hb hR hh hl) ?_)
      rintro ⟨r, o1, o2⟩ hr1
      dsimp only at hr1
      subst hr1
      refine zi_beq (lesser_eq _) ?_
      rw [zbnd_nI (by omega) (by decide)]
      refine zwi ?_
      unfold sFig
      rw [if_neg (show ¬ (held f ≤ 0 ∨ false = true) by simp [hq])]
      exact ⟨rRow_sore hF hf hR, rFr_upd rFr_rf (by omega) (by omega)⟩
    | true =>
      refine zi_f (by decide) ?_
      refine zi_bind (zwp_mono (m_isGoing hP hm hf hb hR hh hl) ?_)
      rintro ⟨r, o1, o2⟩ hr1
      dsimp only at hr1
      refine zi_c (fun h0 => ?_) (fun h0 => ?_)
      · refine zwi ?_
        unfold sFig
        rw [if_pos (Or.inr rfl), if_neg (by rw [hr1] at h0; rw [b2_0.mp h0]; decide)]
        exact ⟨hR, rFr_rf⟩
      · unfold sFig
        rw [if_pos (Or.inr rfl), if_pos (by rw [hr1] at h0; exact b2_n0 h0)]
        rw [ix_1, zbnd_nI (by omega) (by decide), nI_clamp (show b + 1 + f < 2 ^ 31 by omega), r1 f hf, hc1]
        refine zi_beq (m_stepOf hP hf hb hm.1 hm.2.1 r0 (r4 f hf) hh (hl f hf)) ?_
        obtain ⟨w, hw4, hw⟩ := sStep_ok hP (pl := hr + ld f) hf
        rw [hw]
        refine zi_beq (m_beside hP.1 hP.2.1 hP.2.2.2.1 hc2 hw4) ?_
        unfold sGo
        dsimp only
        rw [hc1, nI_clamp (by omega), hw]
        cases hbs : sBeside (qW P) (qH P) c (nI w) with
        | none => exact zi_t rfl (zwi ⟨hR, rFr_rf⟩)
        | some e =>
          have he := sBeside_lt (by have := hP.1; omega) hc2 hbs
          refine zi_f (fun q => by have := (enc_none (o := some e) (fun c q => by injection q with q; omega)).mp q; cases this) ?_
          show zwp (zbnd (nI b + 33 + nI e) 140 _) _
          rw [ix_33, zbnd_nI (by omega) (by decide), show enc (some e) = nI e from rfl, ix_33, nI_clamp (show b + 33 + e < 2 ^ 31 by omega), r5 e (by omega)]
          cases hq : wl.testBit e with
          | false =>
            refine zi_t rfl ?_
            rw [zbnd_nI (by omega) (by decide)]
            refine zwi ?_
            simp only [hq]
            exact ⟨rRow_cell hF hf hR, rFr_upd rFr_rf (by omega) (by omega)⟩
          | true =>
            refine zi_f (by decide) (zwi ?_)
            simp only [hq]
            exact ⟨hR, rFr_rf⟩
def hdOk (F : Nat) (held : Nat → Int32) : Prop := ∀ f, f < F → ∃ h, held f = nI h ∧ h < 2 ^ 30
theorem m_hourGoes {P : Pl} (hP : plOk P) {wayLong ways light code rows told pile cell sore held : Nat → Int32} {ga ha dullAs : Int32} {dl : Bool} {b hr wl : Nat} {ld : Nat → Nat} (hm : mPl P wayLong ways light code ga ha) (hb : b ≤ 70) (hR : rRow (qF P) b rows hr cell sore held ld wl) (hh : hr < 2 ^ 29) (hl : ∀ f, f < qF P → ld f < 2 ^ 30) (hd : dlIs P hr dullAs dl) (hc : clOk P cell) (hhd : hdOk (qF P) held) : zwp (f_X12_hourGoes (nI b) code (qDb P) dullAs (nI (qF P)) ga ha light (nI (qNl P)) pile rows (nI (qH P)) told wayLong ways (nI (qW P))) (fun r => rRow (qF P) b r.2.1 (hr + 1) (sFigs P wl hr ld dl held (cell, sore) (qF P)).1 (sFigs P wl hr ld dl held (cell, sore) (qF P)).2 (sDec held (qF P)) ld wl ∧ rFr b rows r.2.1) := by
  have hF := hP.2.2.2.2.1
  unfold f_X12_hourGoes
  refine zl_bind (P := fun k a => ∃ p r t, a = (nI k, p, r, t) ∧ rRow (qF P) b r hr (sFigs P wl hr ld dl held (cell, sore) k).1 (sFigs P wl hr ld dl held (cell, sore) k).2 held ld wl ∧ rFr b rows r) (Post := fun q => rRow (qF P) b q.2.1 hr (sFigs P wl hr ld dl held (cell, sore) (qF P)).1 (sFigs P wl hr ld dl held (cell, sore) (qF P)).2 held ld wl ∧ rFr b rows q.2.1) (qF P) (by omega) ⟨pile, rows, told, rfl, hR, rFr_rf⟩ ?_ ?_ ?_
  · rintro k hk _ ⟨p, r, t, rfl, hR1, hfr⟩
    refine zi_f (nI_ge hk (by omega)) ?_
    refine zi_bind (zwp_mono (m_figureGoes hP hm hk hb hR1 (by omega) hl hd (sFigs_ok hP hc k (by omega))) ?_)
    rintro ⟨o1, o2, o3⟩ ⟨h1, h2⟩
    exact zwi ⟨o1, o2, o3, by rw [nI_1], h1, rFr_tr hfr h2⟩
  · rintro _ ⟨p, r, t, rfl, hR1, hfr⟩
    exact zi_t (nI_le (Nat.le_refl _) (by omega)) (zwi ⟨hR1, hfr⟩)
  · rintro ⟨p, r, t⟩ ⟨hR1, hfr⟩
    dsimp only at hR1 hfr
    refine zl_bind (P := fun k a => ∃ r, a = (nI k, r) ∧ rRow (qF P) b r hr (sFigs P wl hr ld dl held (cell, sore) (qF P)).1 (sFigs P wl hr ld dl held (cell, sore) (qF P)).2 (sDec held k) ld wl ∧ rFr b rows r) (Post := fun r => rRow (qF P) b r hr (sFigs P wl hr ld dl held (cell, sore) (qF P)).1 (sFigs P wl hr ld dl held (cell, sore) (qF P)).2 (sDec held (qF P)) ld wl ∧ rFr b rows r) (qF P) (by omega) ⟨r, rfl, ?_, hfr⟩ ?_ ?_ ?_
    · have : sDec held 0 = held := by funext f; simp [sDec]
      rw [this]; exact hR1
    · rintro k hk _ ⟨r, rfl, hR2, hfr2⟩
      refine zi_f (nI_ge hk (by omega)) ?_
      have ek : sDec held k k = held k := by simp [sDec]
      obtain ⟨h, hh1, hh2⟩ := hhd k hk
      have e2 : (if held k ≤ 0 then some (0 : Int32) else some 1) = some (if h = 0 then 0 else 1) := by
        rw [hh1]
        by_cases h0 : h = 0
        · subst h0; rfl
        · rw [if_neg (nI_nle (by omega) (by omega)), if_neg h0]
      rw [ix_17, zbnd_nI (by omega) (by decide), zbnd_nI (by omega) (by decide), nI_clamp (show b + 17 + k < 2 ^ 31 by omega), hR2.2.2.2.1 k hk, ek, e2]
      refine zi_beq rfl ?_
      rw [zbnd_nI (by omega) (by decide)]
      have e3 : sDec held (k + 1) = upd (sDec held k) k (held k - (if h = 0 then 0 else 1)) := by
        funext f
        unfold upd
        by_cases he : f = k
        · subst he
          simp only [sDec, if_pos (Nat.lt_succ_self f), if_true]
          rw [hh1]
          by_cases h0 : h = 0
          · subst h0; rfl
          · rw [if_neg h0, nI_m1 _ (by omega)]
            by_cases h1 : h = 1
            · subst h1; rfl
            · rw [if_pos (by rw [show (0 : Int32) = nI 0 from rfl]; exact nI_lt (by omega) (by omega))]
        · simp only [he, if_false]
          unfold sDec
          by_cases h1 : f < k
          · have : f < k + 1 := by omega
            simp [h1, this]
          · have : ¬ f < k + 1 := by omega
            simp [h1, this]
      refine zwi ⟨upd r (b + 17 + k) (held k - (if h = 0 then 0 else 1)), by rw [nI_1], ?_, rFr_upd hfr2 (by omega) (by omega)⟩
      rw [e3]
      exact rRow_held hF hk hR2
    · rintro _ ⟨r, rfl, hR2, hfr2⟩
      exact zi_t (nI_le (Nat.le_refl _) (by omega)) (zwi ⟨hR2, hfr2⟩)
    · rintro r ⟨hR2, hfr2⟩
      rw [ix_0, zbnd_nI (by omega) (by decide), zbnd_nI (by omega) (by decide), nI_clamp (show b < 2 ^ 31 by omega), hR2.1, nI_1]
      exact zwi ⟨rRow_hour hR2, rFr_upd hfr2 (by omega) (by omega)⟩
