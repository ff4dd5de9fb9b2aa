theorem c_join (it a b : Int32) : f_X5_join it a b = some (rJoin it a b) := by
  have h : ∃ v, f_X5_join it a b = some v := by
    unfold f_X5_join
    repeat' split
    all_goals first | exact ⟨_, rfl⟩ | (rename_i h; exact ⟨_, znz_ok h⟩)
  obtain ⟨v, h⟩ := h
  unfold rJoin
  rw [h]
  rfl
/-- a pile of numbers, the top one first, in a row -/
def stk : List Int32 → (Nat → Int32) → Prop
  | [], _ => True
  | a :: r, g => g r.length = a ∧ stk r g
theorem stk_upd : ∀ {s : List Int32} {g : Nat → Int32} {i : Nat} {v : Int32}, stk s g → s.length ≤ i → stk s (upd g i v)
  | [], _, _, _, _, _ => trivial
  | a :: r, g, i, v, h, hi => by
    have hi2 : r.length + 1 ≤ i := hi
    exact ⟨by rw [pk_un (by omega)]; exact h.1, stk_upd h.2 (by omega)⟩
theorem rRun_len {vals code : Nat → Int32} {n : Nat} (hok : rOk code n) : ∀ {k : Nat}, k ≤ n → (rRun vals code k).length = rDep code k
  | 0, _ => rfl
  | k + 1, hk => by
    have ih := rRun_len (vals := vals) hok (show k ≤ n by omega)
    obtain ⟨h1, h2⟩ := hok.2.2 k (by omega)
    unfold rRun rItem rDep
    by_cases hi : code k < -6
    · rw [if_pos hi, if_pos hi]
      obtain ⟨h3, h4⟩ := h1 hi
      by_cases hn : code k = -13
      · rw [if_pos hn, if_pos hn]
        have := h3 hn
        cases hr : rRun vals code k with
        | nil => rw [hr] at ih; simp at ih; omega
        | cons a r => rw [hr] at ih; simpa using ih
      · rw [if_neg hn, if_neg hn]
        have := h4 hn
        cases hr : rRun vals code k with
        | nil => rw [hr] at ih; simp at ih; omega
        | cons b r =>
          cases r with
          | nil => rw [hr] at ih; simp at ih; omega
          | cons a r => rw [hr] at ih; simp at ih ⊢; omega
    · rw [if_neg hi, if_neg hi]
      simp [ih]
theorem rDep_le {code : Nat → Int32} {n : Nat} (hok : rOk code n) : ∀ {k : Nat}, k ≤ n → rDep code k ≤ 48
  | 0, _ => Nat.zero_le _
  | k + 1, hk => by
    have ih := rDep_le hok (show k ≤ n by omega)
    obtain ⟨h1, h2⟩ := hok.2.2 k (by omega)
    unfold rDep
    by_cases hi : code k < -6
    · rw [if_pos hi]
      by_cases hn : code k = -13
      · rw [if_pos hn]; exact ih
      · rw [if_neg hn]; omega
    · rw [if_neg hi]
      have := h2 hi
      omega
theorem idx6 {it : Int32} (h1 : ¬ it < -6) (h2 : it < 0) : ∃ j, j < 6 ∧ (-1 : Int32) - it = nI j := by
  rw [fa_lt] at h1 h2
  have e6 : ((-6 : Int32)).toInt = -6 := by decide
  have e0 : ((0 : Int32)).toInt = 0 := by decide
  have e1 : ((-1 : Int32)).toInt = -1 := by decide
  rw [e6] at h1
  rw [e0] at h2
  have hs : ((-1 : Int32) - it).toInt = -1 - it.toInt := by
    rw [fb_subI (by rw [e1]; omega) (by rw [e1]; omega), e1]
  refine ⟨(-1 - it.toInt).toNat, by omega, ?_⟩
  rw [fa_eq, hs, nI_toInt (by omega)]
  omega
theorem rRun_cong {vals vals' code : Nat → Int32} (h : ∀ v, v < 6 → vals v = vals' v) : ∀ k, rRun vals code k = rRun vals' code k
  | 0 => rfl
  | k + 1 => by
    unfold rRun rItem
    rw [rRun_cong h k]
    by_cases hi : code k < -6
    · rw [if_pos hi, if_pos hi]
    · rw [if_neg hi, if_neg hi]
      by_cases h0 : code k < 0
      · obtain ⟨j, hj, e⟩ := idx6 hi h0
        rw [if_pos h0, if_pos h0, e, nI_clamp (by omega), h j hj]
      · rw [if_neg h0, if_neg h0]
theorem rVal_cong {vals vals' code : Nat → Int32} {n : Nat} (h : ∀ v, v < 6 → vals v = vals' v) : rVal vals code n = rVal vals' code n := by
  unfold rVal
  rw [rRun_cong h]
theorem nI_s1 (d : Nat) : nI (d + 1) - 1 = nI d := nI_pred d
theorem nI_m1a (d : Nat) : nI (d + 1) + (-1) = nI d := pk_m1 d
theorem nI_sa (d : Nat) : nI d - 1 + 1 = nI d := Int32.sub_add_cancel _ _
theorem c_value {vals code stack : Nat → Int32} {n : Nat} (hok : rOk code n) (h0 : 0 < n) : zwp (f_X5_value 6 vals code (nI n) stack) (fun r => r.1 = rVal vals code n) := by
  have hn7 := hok.1
  unfold f_X5_value
  refine zl_bind (P := fun k a => ∃ g, a = (nI (rDep code k) - 1, nI k, g) ∧ stk (rRun vals code k) g) (Post := fun b => ∃ g, b = (nI (rDep code n) - 1, g) ∧ stk (rRun vals code n) g) n (by omega) ⟨stack, rfl, trivial⟩ ?_ ?_ ?_
  · rintro k hk _ ⟨g, rfl, hg⟩
    have hlen := rRun_len (vals := vals) hok (Nat.le_of_lt hk)
    obtain ⟨hk1, hk2⟩ := hok.2.2 k hk
    have hrun : rRun vals code (k + 1) = rItem vals (code k) (rRun vals code k) := rfl
    have hdep : rDep code (k + 1) = if code k < -6 then (if code k = -13 then rDep code k else rDep code k - 1) else rDep code k + 1 := rfl
    refine zi_f (nI_ge hk (by omega)) ?_
    rw [zbnd_nI (show k < 700 by omega) (by decide), nI_clamp (by omega)]
    by_cases hi : code k < -6
    · refine zi_t hi ?_
      rw [if_pos hi] at hdep
      unfold rItem at hrun
      rw [if_pos hi] at hrun
      by_cases hN : code k = -13
      · refine zi_t hN ?_
        rw [if_pos hN] at hdep hrun
        have h1 := (hk1 hi).1 hN
        cases hr : rRun vals code k with
        | nil => rw [hr] at hlen; simp at hlen; omega
        | cons a r =>
          rw [hr] at hlen hg hrun
          have hd : rDep code k = r.length + 1 := by rw [← hlen]; rfl
          have hdb : r.length < 48 := by
            have := rDep_le hok (Nat.le_of_lt hk)
            omega
          rw [hd, nI_s1]
          refine zi_f (nI_pos (by omega)) ?_
          rw [zbnd_nI hdb (by decide), nI_clamp (by omega), hg.1, b2_ite]
          refine zi_beq rfl ?_
          rw [zbnd_nI hdb (by decide)]
          refine zwi ?_
          refine ⟨upd g r.length (b2 (decide (a = 0))), ?_, ?_⟩
          · rw [hdep, hd, nI_s1, nI_1]
          · rw [hrun]
            refine ⟨?_, stk_upd hg.2 (Nat.le_refl _)⟩
            rw [pk_us]
            by_cases ha : a = 0
            · simp [ha, b2]
            · simp [ha, b2]
      · refine zi_f hN ?_
        rw [if_neg hN] at hdep hrun
        have h2 := (hk1 hi).2 hN
        cases hr : rRun vals code k with
        | nil => rw [hr] at hlen; simp at hlen; omega
        | cons b r =>
          cases r with
          | nil => rw [hr] at hlen; simp at hlen; omega
          | cons a r =>
            rw [hr] at hlen hg hrun
            have hd : rDep code k = r.length + 2 := by rw [← hlen]; rfl
            have hdb : r.length + 1 < 48 := by
              have := rDep_le hok (Nat.le_of_lt hk)
              omega
            rw [hd, show r.length + 2 = (r.length + 1) + 1 from rfl, nI_s1]
            refine zi_f (by rw [show (1 : Int32) = nI 1 from rfl]; exact nI_nlt (by omega) (by omega)) ?_
            rw [nI_m1a, nI_1, zbnd_nI (by omega) (by decide), zbnd_nI (by omega) (by decide), nI_clamp (by omega), nI_clamp (by omega)]
            have ea : g r.length = a := hg.2.1
            have eb : g (r.length + 1) = b := hg.1
            rw [ea, eb]
            refine zi_beq (c_join _ _ _) ?_
            rw [zbnd_nI (by omega) (by decide)]
            refine zwi ?_
            refine ⟨upd g r.length (rJoin (code k) a b), ?_, ?_⟩
            · rw [hdep, hd, show r.length + 2 - 1 = r.length + 1 by omega, nI_s1, nI_1]
            · rw [hrun]
              exact ⟨pk_us, stk_upd hg.2.2 (Nat.le_refl _)⟩
    · refine zi_f hi ?_
      rw [if_neg hi] at hdep
      unfold rItem at hrun
      rw [if_neg hi] at hrun
      have hd := hk2 hi
      rw [nI_sa]
      refine zi_f (by rw [show (48 : Int32) = nI 48 from rfl]; exact nI_ge hd (by decide)) ?_
      have key : ∀ v, rRun vals code (k + 1) = v :: rRun vals code k → Sum.elim (fun a => ∃ g, a = (nI (rDep code (k + 1)) - 1, nI (k + 1), g) ∧ stk (rRun vals code (k + 1)) g) (fun b => ∃ g, b = (nI (rDep code n) - 1, g) ∧ stk (rRun vals code n) g) (.inl (nI (rDep code k), nI k + 1, upd g (rDep code k) v) : (Int32 × Int32 × (Nat → Int32)) ⊕ (Int32 × (Nat → Int32))) := by
        intro v hv
        refine ⟨upd g (rDep code k) v, ?_, ?_⟩
        · rw [hdep, nI_s1, nI_1]
        · rw [hv]
          refine ⟨?_, stk_upd hg (by omega)⟩
          rw [hlen, pk_us]
      by_cases h0 : code k < 0
      · obtain ⟨j, hj, e⟩ := idx6 hi h0
        rw [if_pos h0] at hrun
        rw [if_pos h0, e, zbnd_nI hj (by decide)]
        refine zi_beq rfl ?_
        rw [zbnd_nI hd (by decide), nI_clamp (by omega)]
        refine zwi (key _ ?_)
        rw [hrun, e]
      · rw [if_neg h0] at hrun
        rw [if_neg h0]
        refine zi_beq rfl ?_
        rw [zbnd_nI hd (by decide), nI_clamp (by omega)]
        exact zwi (key _ hrun)
  · rintro _ ⟨g, rfl, hg⟩
    refine zi_t (nI_le (Nat.le_refl _) (by omega)) ?_
    exact zwi ⟨g, rfl, hg⟩
  · rintro _ ⟨g, rfl, hg⟩
    have h1 := hok.2.1 h0
    have hlen := rRun_len (vals := vals) hok (Nat.le_refl n)
    rw [h1] at hlen ⊢
    unfold rVal
    cases hr : rRun vals code n with
    | nil => rw [hr] at hlen; simp at hlen
    | cons a r =>
      rw [hr] at hlen hg
      have hr0 : r.length = 0 := by simpa using hlen
      have ha : g 0 = a := by have := hg.1; rw [hr0] at this; exact this
      rw [show nI 1 - 1 = nI 0 from rfl]
      refine zi_f (nI_pos (by decide)) ?_
      rw [zbnd_nI (by decide) (by decide), nI_clamp (by decide)]
      exact zwi ha

/-- a plan as a text can tell it -/
def plOk (P : Pl) : Prop := 2 ≤ qW P ∧ qW P ≤ 6 ∧ 2 ≤ qH P ∧ qH P ≤ 6 ∧ qF P ≤ 8 ∧ qNl P ≤ 8 ∧ (∀ f, f < qF P → ∃ s, qSt P f = nI s ∧ 0 < s ∧ s ≤ 8 ∧ ∀ k, k < s → ∃ w, w ≤ 4 ∧ qWy P (f * 8 + k) = nI w) ∧ rOk (qGc P) (qGn P) ∧ rOk (qHc P) (qHn P)
theorem sStep_ok {P : Pl} (hP : plOk P) {f pl : Nat} (hf : f < qF P) : ∃ w, w ≤ 4 ∧ sStep P f pl = nI w := by
  obtain ⟨s, hs, h0, h8, hw⟩ := hP.2.2.2.2.2.2.1 f hf
  unfold sStep
  rw [hs, nI_clamp (by omega)]
  exact hw _ (Nat.mod_lt _ h0)
theorem c_step {P : Pl} (hP : plOk P) {f pl : Nat} (hf : f < qF P) (hp : pl < 2 ^ 31) : f_X3_stepOf (nI f) (nI pl) (qSt P) (qWy P) = some (sStep P f pl) := by
  obtain ⟨s, hs, h0, h8, -⟩ := hP.2.2.2.2.2.2.1 f hf
  have := hP.2.2.2.2.1
  exact c_stepOf (by omega) hs h0 h8 hp
theorem c_setValues {P : Pl} (hP : plOk P) {f hr l : Nat} {cell sore held lead values : Nat → Int32} (hf : f < qF P) (hh : hr < 2 ^ 30) (hl : lead f = nI l) (hl2 : l < 2 ^ 30) : zwp (f_X2_setValues (nI f) (qLt P) (nI (qNl P)) (qSt P) (qWy P) cell (nI (qF P)) held (nI hr) lead sore values) (fun v => ∀ k, k < 6 → v k = sVals P hr l cell sore held f k) := by
  have hF := hP.2.2.2.2.1
  have hN := hP.2.2.2.2.2.1
  unfold f_X2_setValues
  rw [zbnd_nI (by omega) (by decide)]
  refine zi_beq (c_lightOf hN (by omega)) ?_
  refine zi_beq (c_othersWith hF hf) ?_
  rw [zbnd_nI (by omega) (by decide), nI_clamp (by omega), hl, nI_add]
  refine zi_beq (c_step hP hf (by omega)) ?_
  rw [zbnd_nI (by omega) (by decide)]
  refine zwi ?_
  intro k hk
  unfold sVals
  have hc : k = 0 ∨ k = 1 ∨ k = 2 ∨ k = 3 ∨ k = 4 ∨ k = 5 := by omega
  rcases hc with rfl | rfl | rfl | rfl | rfl | rfl <;> simp [upd]
theorem c_isTold {n : Nat} (hn : n < 2 ^ 31) : f_X5_isTold (nI n) = some (b2 (decide (0 < n))) := by
  unfold f_X5_isTold
  by_cases h : n = 0
  · subst h; rfl
  · have h0 : 0 < n := by omega
    rw [if_neg (nI_nle h0 hn)]
    simp [h0, b2]
theorem c_wantsToGo {P : Pl} (hP : plOk P) {f hr l : Nat} {cell sore held lead values stack : Nat → Int32} (hf : f < qF P) (hh : hr < 2 ^ 30) (hl : lead f = nI l) (hl2 : l < 2 ^ 30) : zwp (f_X2_wantsToGo (nI f) (qGc P) (nI (qGn P)) stack (qLt P) (nI (qNl P)) (qSt P) (qWy P) cell (nI (qF P)) held (nI hr) lead sore values) (fun r => r.1 = b2 (sWants P hr l cell sore held f)) := by
  have hF := hP.2.2.2.2.1
  have hG := hP.2.2.2.2.2.2.2.1
  have hG7 := hG.1
  unfold f_X2_wantsToGo sWants
  refine zi_beq (c_isTold (by omega)) ?_
  by_cases h : qGn P = 0
  · have h0 : ¬ 0 < qGn P := by omega
    simp only [h0, decide_false, h, if_true]
    refine zi_t rfl ?_
    rw [zbnd_nI (by omega) (by decide), nI_clamp (by omega)]
    by_cases hs : sore f < 10
    · refine zi_f (fun hc => ?_) (zwi ?_)
      · rw [fa_le] at hc; rw [fa_lt] at hs; omega
      · simp [hs, b2]
    · refine zi_t (fa_of_nlt hs) (zwi ?_)
      simp [hs, b2]
  · have h0 : 0 < qGn P := by omega
    simp only [h0, decide_true, h, if_false]
    refine zi_f (by decide) ?_
    refine zi_bind (zwp_mono (c_setValues hP hf hh hl hl2) ?_)
    intro v hv
    refine zi_bind (zwp_mono (c_value hG h0) ?_)
    rintro ⟨r, o⟩ hrv
    dsimp only at hrv
    rw [rVal_cong hv] at hrv
    show zwp (if r ≤ 0 then _ else _) _
    rw [hrv]
    by_cases hs : (0 : Int32) < rVal (sVals P hr l cell sore held f) (qGc P) (qGn P)
    · refine zi_f (fun hc => ?_) (zwi ?_)
      · rw [fa_le] at hc; rw [fa_lt] at hs; omega
      · simp [hs, b2]
    · refine zi_t (fa_of_nlt hs) (zwi ?_)
      simp [hs, b2]
theorem c_hurt {P : Pl} (hP : plOk P) {f hr l : Nat} {cell sore held lead values stack : Nat → Int32} (hf : f < qF P) (hh : hr < 2 ^ 30) (hl : lead f = nI l) (hl2 : l < 2 ^ 30) : zwp (f_X2_hurt (nI f) (qHc P) (nI (qHn P)) stack (qLt P) (nI (qNl P)) (qSt P) (qWy P) cell (nI (qF P)) held (nI hr) lead sore values) (fun r => r.2.1 = upd sore f (if sore f + sHurt P hr l cell sore held f < 99 then sore f + sHurt P hr l cell sore held f else 99)) := by
  have hF := hP.2.2.2.2.1
  have hG := hP.2.2.2.2.2.2.2.2
  have hG7 := hG.1
  unfold f_X2_hurt sHurt
  refine zi_beq (c_isTold (by omega)) ?_
  refine zi_bind (zwp_mono (Q := fun r => r.1 = sHurt P hr l cell sore held f) ?_ ?_)
  · unfold sHurt
    by_cases h : qHn P = 0
    · have h0 : ¬ 0 < qHn P := by omega
      simp only [h0, decide_false, h, if_true]
      refine zi_t rfl (zwi rfl)
    · have h0 : 0 < qHn P := by omega
      simp only [h0, decide_true, h, if_false]
      refine zi_f (by decide) ?_
      refine zi_bind (zwp_mono (c_setValues hP hf hh hl hl2) ?_)
      intro v hv
      refine zi_bind (zwp_mono (c_value hG h0) ?_)
      rintro ⟨r, o⟩ hr
      dsimp only at hr
      rw [rVal_cong hv] at hr
      subst hr
      exact zwi rfl
  · rintro ⟨j2, j3, j4⟩ hj
    dsimp only at hj
    show zwp (zbnd (nI f) 8 (zbnd (nI f) 8 (some _))) _
    rw [zbnd_nI (by omega) (by decide), zbnd_nI (by omega) (by decide), nI_clamp (by omega), hj]
    exact zwi rfl
theorem c_beside {W H c s : Nat} (hW : 2 ≤ W) (hW6 : W ≤ 6) (hH : H ≤ 6) (hc : c < W * H) (hs : s ≤ 4) : f_X3_beside (nI c) (nI s) (nI H) (nI W) = some (enc (sBeside W H c (nI s))) := by
  have hWH : W * H ≤ 36 := Nat.mul_le_mul hW6 hH
  have hm : c % W < W := Nat.mod_lt _ (by omega)
  unfold f_X3_beside sBeside
  rw [if_neg (nI_nle (by omega) (by omega)), znz_nI (by omega) (by omega), pk_rem (by omega) (by omega) (by omega)]
  show (if nI s = 0 then _ else _) = _
  by_cases h0 : nI s = 0
  · simp only [h0, if_true]; rfl
  by_cases h1 : nI s = 1
  · rw [if_neg h0, if_pos h1, if_neg h0, if_pos h1]
    by_cases hq : c < W
    · rw [if_pos (nI_lt hq (by omega)), if_pos hq]; rfl
    · rw [if_neg (nI_nlt (by omega) (by omega)), if_neg hq, pk_sub (by omega)]; rfl
  by_cases h2 : nI s = 2
  · rw [if_neg h0, if_neg h1, if_pos h2, if_neg h0, if_neg h1, if_pos h2, nI_1, nI_1]
    by_cases hq : c % W + 1 < W
    · rw [if_neg (nI_ge hq (by omega)), if_pos hq]; rfl
    · rw [if_pos (nI_le (by omega) (by omega)), if_neg hq]; rfl
  by_cases h3 : nI s = 3
  · rw [if_neg h0, if_neg h1, if_neg h2, if_pos h3, if_neg h0, if_neg h1, if_neg h2, if_pos h3]
    unfold f_X3_cells
    show (if nI W * nI H ≤ nI c + nI W then _ else _) = _
    rw [pk_mul, nI_add]
    by_cases hq : c + W < W * H
    · rw [if_neg (nI_ge hq (by omega)), if_pos hq]; rfl
    · rw [if_pos (nI_le (by omega) (by omega)), if_neg hq]; rfl
  rw [if_neg h0, if_neg h1, if_neg h2, if_neg h3, if_neg h0, if_neg h1, if_neg h2, if_neg h3]
  by_cases hq : 0 < c % W
  · rw [if_neg (nI_nle hq (by omega)), if_pos hq, nI_m1 _ (by have := Nat.mod_le c W; omega)]; rfl
  · have : c % W = 0 := by omega
    rw [this, if_pos (by decide)]; rfl
theorem sBeside_lt {W H c : Nat} {s : Int32} (hW : 0 < W) (hc : c < W * H) {d : Nat} (h : sBeside W H c s = some d) : d < W * H := by
  unfold sBeside at h
  by_cases h0 : s = 0
  · rw [if_pos h0] at h; injection h with h; omega
  rw [if_neg h0] at h
  by_cases h1 : s = 1
  · rw [if_pos h1] at h
    by_cases hq : c < W
    · rw [if_pos hq] at h; cases h
    · rw [if_neg hq] at h; injection h with h; omega
  rw [if_neg h1] at h
  by_cases h2 : s = 2
  · rw [if_pos h2] at h
    by_cases hq : c % W + 1 < W
    · rw [if_pos hq] at h; injection h with h
      have hd := Nat.div_add_mod c W
      have hlt : c / W < H := Nat.div_lt_of_lt_mul hc
      have : W * (c / W) + W ≤ W * H := by rw [← Nat.mul_succ]; exact Nat.mul_le_mul_left W hlt
      omega
    · rw [if_neg hq] at h; cases h
  rw [if_neg h2] at h
  by_cases h3 : s = 3
  · rw [if_pos h3] at h
    by_cases hq : c + W < W * H
    · rw [if_pos hq] at h; injection h with h; omega
    · rw [if_neg hq] at h; cases h
  rw [if_neg h3] at h
  by_cases hq : 0 < c % W
  · rw [if_pos hq] at h; injection h with h; omega
  · rw [if_neg hq] at h; cases h
theorem lg_cmp_0 {x y : Int64} : lg_cmp x y = 0 ↔ x = y := by
  unfold lg_cmp
  by_cases h : x > y
  · rw [if_pos h]
    constructor
    · intro h; exact absurd h (by decide)
    · intro h2; subst h2
      exact absurd h (by rw [GT.gt, fa_lt64]; omega)
  · rw [if_neg h]
    by_cases h2 : x = y
    · simp [h2]
    · simp [h2]
theorem testBit_div {n k : Nat} : (n / 2 ^ k % 2 = 0) ↔ n.testBit k = false := by
  rw [Nat.testBit_eq_decide_div_mod_eq]
  have : n / 2 ^ k % 2 < 2 := Nat.mod_lt _ (by decide)
  simp
theorem wall_bit {wl c : Nat} (hw : wl < 2 ^ 63) (hc : c < 64) : (lg_cmp ((((lN wl).toUInt64 >>> ((nI c).toInt64.toUInt64 &&& Int64.toUInt64 63)).toInt64) &&& (1 : Int64)) (0 : Int64) = 0) ↔ wl.testBit c = false := by
  rw [lg_cmp_0, wb_bit (by omega) hc, ← testBit_div]
  have h2 : wl / 2 ^ c % 2 < 2 := Nat.mod_lt _ (by decide)
  have e : (0 : Int64) = lN 0 := rfl
  rw [e, pk_lEQ (by omega) (by decide)]
theorem c_isWall {wl c : Nat} (hw : wl < 2 ^ 63) (hc : c < 64) : f_X8_isWall (nI c) (lN wl) = some (b2 (wl.testBit c)) := by
  unfold f_X8_isWall
  cases h : wl.testBit c with
  | false => rw [if_pos ((wall_bit hw hc).mpr h)]; rfl
  | true => rw [if_neg (fun q => by rw [(wall_bit hw hc).mp q] at h; cases h)]; rfl
theorem enc_none : ∀ {o : Option Nat}, (∀ c, o = some c → c < 64) → (enc o = -1 ↔ o = none)
  | none, _ => by simp [enc]
  | some c, h => by
    have hc := h c rfl
    constructor
    · intro q
      have : (nI c).toInt = -1 := by rw [show nI c = enc (some c) from rfl, q]; decide
      rw [nI_toInt (by omega)] at this
      omega
    · intro q; cases q
theorem c_go {P : Pl} (hP : plOk P) {f hr l wl c : Nat} {cell lead : Nat → Int32} (hf : f < qF P) (hh : hr < 2 ^ 30) (hl : lead f = nI l) (hl2 : l < 2 ^ 30) (hw : wl < 2 ^ 63) (hc : cell f = nI c) (hc2 : c < qW P * qH P) : f_X2_go (nI f) (nI (qH P)) (qSt P) (qWy P) (nI (qW P)) cell (nI hr) lead (lN wl) = some (sGo P wl hr l cell f) := by
  have hF := hP.2.2.2.2.1
  have hWH : qW P * qH P ≤ 36 := Nat.mul_le_mul hP.2.1 hP.2.2.2.1
  obtain ⟨s, hs, hs2⟩ := sStep_ok hP (pl := hr + l) hf
  unfold f_X2_go sGo
  rw [zbnd_nI (by omega) (by decide), zbnd_nI (by omega) (by decide), nI_clamp (by omega), hl, nI_add, c_step hP hf (by omega), hs2, hc, nI_clamp (by omega)]
  show Option.bind (f_X3_beside (nI c) (nI s) (nI (qH P)) (nI (qW P))) _ = _
  rw [c_beside hP.1 hP.2.1 hP.2.2.2.1 hc2 hs]
  have hlt : ∀ d, sBeside (qW P) (qH P) c (nI s) = some d → d < 64 := fun d hd => by
    have := sBeside_lt (by have := hP.1; omega) hc2 hd
    omega
  show (if enc (sBeside (qW P) (qH P) c (nI s)) = -1 then some cell else _) = _
  cases hb : sBeside (qW P) (qH P) c (nI s) with
  | none => rfl
  | some d =>
    have hd := hlt d hb
    rw [if_neg (fun q => by have := (enc_none (o := some d) (fun c q => by injection q with q; omega)).mp q; cases this)]
    show Option.bind (f_X8_isWall (nI d) (lN wl)) _ = _
    rw [c_isWall hw hd]
    show (if b2 (wl.testBit d) = 0 then _ else _) = _
    cases hq : wl.testBit d with
    | false =>
      rw [if_pos (by decide), zbnd_nI (by omega) (by decide)]
      show _ = some (if wl.testBit d = true then cell else upd cell f (nI d))
      rw [hq]
      rfl
    | true =>
      rw [if_neg (by decide)]
      show _ = some (if wl.testBit d = true then cell else upd cell f (nI d))
      rw [hq]
      rfl
theorem b2_n0 {c : Bool} (h : ¬ b2 c = 0) : c = true := by
  cases c with
  | true => rfl
  | false => exact absurd rfl h
/-- all are on the table -/
def clOk (P : Pl) (cell : Nat → Int32) : Prop := ∀ f, f < qF P → ∃ c, cell f = nI c ∧ c < qW P * qH P
theorem sGo_ok {P : Pl} (hP : plOk P) {wl hr l f : Nat} {cell : Nat → Int32} (hc : clOk P cell) (hf : f < qF P) : clOk P (sGo P wl hr l cell f) := by
  unfold sGo
  have hWH : qW P * qH P ≤ 36 := Nat.mul_le_mul hP.2.1 hP.2.2.2.1
  obtain ⟨c, hc1, hc2⟩ := hc f hf
  rw [hc1, nI_clamp (by omega)]
  cases hb : sBeside (qW P) (qH P) c (sStep P f (hr + l)) with
  | none => exact hc
  | some d =>
    have hd := sBeside_lt (by have := hP.1; omega) hc2 hb
    show clOk P (if wl.testBit d = true then cell else upd cell f (nI d))
    by_cases hq : wl.testBit d = true
    · rw [if_pos hq]; exact hc
    · rw [if_neg hq]
      intro g hg
      by_cases he : g = f
      · subst he; exact ⟨d, pk_us, hd⟩
      · rw [pk_un he]; exact hc g hg
theorem sFigs_ok {P : Pl} (hP : plOk P) {wl hr : Nat} {ld : Nat → Nat} {dl : Bool} {held : Nat → Int32} {s : (Nat → Int32) × (Nat → Int32)} (hc : clOk P s.1) : ∀ k, k ≤ qF P → clOk P (sFigs P wl hr ld dl held s k).1
  | 0, _ => hc
  | k + 1, hk => by
    have ih := sFigs_ok hP (wl := wl) (hr := hr) (ld := ld) (dl := dl) (held := held) hc k (by omega)
    unfold sFigs sFig
    by_cases h : held k ≤ 0 ∨ dl = true
    · rw [if_pos h]
      split
      · exact sGo_ok hP ih (by omega)
      · exact ih
    · rw [if_neg h]; exact ih
theorem c_passHour {P : Pl} (hP : plOk P) {wl hr : Nat} {ld : Nat → Nat} {dl : Bool} {cell sore held lead values gs hs : Nat → Int32} (hh : hr < 2 ^ 30) (hl : ∀ f, f < qF P → lead f = nI (ld f) ∧ ld f < 2 ^ 30) (hw : wl < 2 ^ 63) (hc : clOk P cell) : zwp (f_X2_passHour (b2 dl) (nI (qF P)) (qGc P) (nI (qGn P)) gs (nI (qH P)) (qHc P) (nI (qHn P)) hs (qLt P) (nI (qNl P)) (qSt P) (qWy P) (nI (qW P)) cell (nI (qF P)) held (nI hr) lead sore (lN wl) values) (fun r => r.2.2.1 = (sFigs P wl hr ld dl held (cell, sore) (qF P)).1 ∧ r.2.2.2.1 = sDec held (qF P) ∧ r.2.2.2.2.1 = nI (hr + 1) ∧ r.2.2.2.2.2.1 = (sFigs P wl hr ld dl held (cell, sore) (qF P)).2) := by
  have hF := hP.2.2.2.2.1
  unfold f_X2_passHour
  refine zl_bind (P := fun k a => ∃ g h v, a = (nI k, g, h, (sFigs P wl hr ld dl held (cell, sore) k).1, (sFigs P wl hr ld dl held (cell, sore) k).2, v)) (Post := fun b => ∃ g h v, b = (g, h, (sFigs P wl hr ld dl held (cell, sore) (qF P)).1, (sFigs P wl hr ld dl held (cell, sore) (qF P)).2, v)) (qF P) (by omega) ⟨gs, hs, values, rfl⟩ ?_ ?_ ?_
  · rintro k hk _ ⟨g, h, v, rfl⟩
    obtain ⟨hl1, hl2⟩ := hl k hk
    have hcl := sFigs_ok hP (wl := wl) (hr := hr) (ld := ld) (dl := dl) (held := held) (s := (cell, sore)) hc k (by omega)
    obtain ⟨c, hc1, hc2⟩ := hcl k hk
    have e : sFigs P wl hr ld dl held (cell, sore) (k + 1) = sFig P wl hr ld dl held k (sFigs P wl hr ld dl held (cell, sore) k) := rfl
    refine zi_f (nI_ge hk (by omega)) ?_
    rw [zbnd_nI (by omega) (by decide), nI_clamp (by omega)]
    by_cases hq : held k ≤ 0
    · refine zi_t hq ?_
      refine zi_bind (zwp_mono (c_wantsToGo hP hk hh hl1 hl2) ?_)
      rintro ⟨r, o1, o2⟩ hr1
      dsimp only at hr1
      refine zi_c (fun h0 => ?_) (fun h0 => ?_)
      · refine zwi ⟨o1, h, o2, ?_⟩
        unfold sFig at e
        rw [if_pos (Or.inl hq), if_neg (by rw [hr1] at h0; rw [b2_0.mp h0]; decide)] at e
        rw [e, nI_1]
      · refine zi_beq (c_go hP hk hh hl1 hl2 hw hc1 hc2) (zwi ⟨o1, h, o2, ?_⟩)
        unfold sFig at e
        rw [if_pos (Or.inl hq), if_pos (by rw [hr1] at h0; exact b2_n0 h0)] at e
        rw [e, nI_1]
    · refine zi_f hq ?_
      cases hdl : dl with
      | true =>
        rw [hdl] at e hcl hc1
        refine zi_f (by decide) ?_
        refine zi_bind (zwp_mono (c_wantsToGo hP hk hh hl1 hl2) ?_)
        rintro ⟨r, o1, o2⟩ hr1
        dsimp only at hr1
        refine zi_c (fun h0 => ?_) (fun h0 => ?_)
        · refine zwi ⟨o1, h, o2, ?_⟩
          unfold sFig at e
          rw [if_pos (Or.inr rfl), if_neg (by rw [hr1] at h0; rw [b2_0.mp h0]; decide)] at e
          rw [e, nI_1]
        · refine zi_beq (c_go hP hk hh hl1 hl2 hw hc1 hc2) (zwi ⟨o1, h, o2, ?_⟩)
          unfold sFig at e
          rw [if_pos (Or.inr rfl), if_pos (by rw [hr1] at h0; exact b2_n0 h0)] at e
          rw [e, nI_1]
      | false =>
        rw [hdl] at e hcl hc1
        refine zi_t rfl ?_
        refine zi_bind (zwp_mono (c_hurt hP hk hh hl1 hl2) ?_)
        rintro ⟨o1, o2, o3⟩ hr1
        dsimp only at hr1
        refine zwi ⟨g, o1, o3, ?_⟩
        unfold sFig at e
        rw [if_neg (by simp [hq])] at e
        rw [e, hr1, nI_1]
  · rintro _ ⟨g, h, v, rfl⟩
    exact zi_t (nI_le (Nat.le_refl _) (by omega)) (zwi ⟨g, h, v, rfl⟩)
  · rintro _ ⟨g, h, v, rfl⟩
    refine zi_beq (a := sDec held (qF P)) ?_ (zwi ⟨rfl, rfl, nI_1 hr, rfl⟩)
    refine zitr_run (s := fun k => (nI k, sDec held k)) (qF P) (by omega) ?_ ?_ ?_
    · refine Prod.ext rfl ?_
      funext f
      simp [sDec]
    · intro k hk
      show (if nI (qF P) ≤ nI k then _ else _) = _
      rw [if_neg (nI_ge hk (by omega)), zbnd_nI (by omega) (by decide), zbnd_nI (by omega) (by decide), nI_clamp (by omega), nI_1]
      congr 3
      have ek : sDec held k k = held k := by simp [sDec]
      rw [ek]
      funext f
      unfold upd
      by_cases he : f = k
      · subst he; simp [sDec]
      · simp only [he, if_false]
        unfold sDec
        by_cases h1 : f < k
        · have : f < k + 1 := by omega
          simp [h1, this]
        · have : ¬ f < k + 1 := by omega
          simp [h1, this]
    · show (if nI (qF P) ≤ nI (qF P) then _ else _) = _
      rw [if_pos (nI_le (Nat.le_refl _) (by omega))]
