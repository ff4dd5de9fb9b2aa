/-! WAYS: how far cells are -/
/-- how far (none: not reached), the queue, its end -/
abbrev bS := (Nat → Option Nat) × (Nat → Nat) × Nat
def bTry (wl c : Nat) (s : bS) (x : Nat) : bS := if (s.1 x).isSome then s else (fun y => if y = x then some ((s.1 c).getD 0 + 1) else s.1 y, if wl.testBit x then s.2 else (fun m => if m = s.2.2 then x else s.2.1 m, s.2.2 + 1))
def bK (W H wl c : Nat) (s : bS) : Nat → bS
  | 0 => s
  | k + 1 => match sBeside W H c (nI (k + 1)) with
    | none => bK W H wl c s k
    | some x => bTry wl c (bK W H wl c s k) x
def bRun (W H wl a : Nat) : Nat → bS
  | 0 => (fun y => if y = a then some 0 else none, fun _ => a, if wl.testBit a then 0 else 1)
  | i + 1 => if i < (bRun W H wl a i).2.2 then bK W H wl ((bRun W H wl a i).2.1 i) (bRun W H wl a i) 4 else bRun W H wl a i
/-- how far all cells are from a -/
def sFar (W H wl a : Nat) : Nat → Option Nat := (bRun W H wl a 36).1
def bI (W H wl : Nat) (s : bS) : Prop := (∀ j d, s.1 j = some d → j < W * H ∧ d ≤ s.2.2) ∧ s.2.2 ≤ fb_ct (fun j => (s.1 j).isSome) 36 ∧ (∀ i, i < s.2.2 → s.2.1 i < W * H ∧ wl.testBit (s.2.1 i) = false ∧ ∃ d, s.1 (s.2.1 i) = some d ∧ d ≤ i)
theorem bI_le {W H wl : Nat} {s : bS} (h : bI W H wl s) : s.2.2 ≤ 36 := Nat.le_trans h.2.1 (fb_ct_le _ _)
theorem bI_lt {W H wl x : Nat} {s : bS} (h : bI W H wl s) (hx : x < 36) (hn : (s.1 x).isSome = false) : s.2.2 < 36 := by
  have h1 := fb_ct_le (fun j => (s.1 j).isSome) 36
  have h2 : ¬ fb_ct (fun j => (s.1 j).isSome) 36 = 36 := fun e => by
    have := fb_ct_all.mp e x hx
    rw [hn] at this; cases this
  have := h.2.1
  omega
theorem bI_try {W H wl x i c : Nat} {s : bS} (h : bI W H wl s) (hi : i < s.2.2) (hc : s.2.1 i = c) (hx : x < W * H) (hWH : W * H ≤ 36) : bI W H wl (bTry wl c s x) ∧ s.2.2 ≤ (bTry wl c s x).2.2 ∧ (∀ m, m < s.2.2 → (bTry wl c s x).2.1 m = s.2.1 m) := by
  unfold bTry
  cases hn : (s.1 x).isSome with
  | true => rw [if_pos rfl]; exact ⟨h, Nat.le_refl _, fun _ _ => rfl⟩
  | false =>
    rw [if_neg (by decide)]
    obtain ⟨h1, h2, h3⟩ := h
    obtain ⟨q1, q2, d, q3, q4⟩ := h3 i hi
    rw [hc] at q3
    have ct : fb_ct (fun j => (if j = x then some ((s.1 c).getD 0 + 1) else s.1 j).isSome) 36 = fb_ct (fun j => (s.1 j).isSome) 36 + 1 := by
      have e1 := fb_ct_upd (fun j => (s.1 j).isSome) true (i := x) (n := 36) (by omega)
      rw [show (if (s.1 x).isSome = true then 1 else 0) = 0 by rw [if_neg (by rw [hn]; decide)]] at e1
      rw [show (fun j => (if j = x then some ((s.1 c).getD 0 + 1) else s.1 j).isSome) = (fun k => if k = x then true else (fun j => (s.1 j).isSome) k) by
        funext j
        by_cases q : j = x
        · rw [if_pos q, if_pos q]; rfl
        · rw [if_neg q, if_neg q]]
      exact e1
    have ne : ∀ j d, s.1 j = some d → ¬ j = x := fun j d e q => by rw [q] at e; rw [e] at hn; cases hn
    rw [q3]
    rw [q3] at ct
    dsimp only [Option.getD] at ct ⊢
    cases hw : wl.testBit x with
    | true =>
      rw [if_pos rfl]
      refine ⟨⟨?_, ?_, ?_⟩, Nat.le_refl _, fun _ _ => rfl⟩
      · intro j e he
        dsimp only at he
        by_cases q : j = x
        · rw [if_pos q] at he
          injection he with he
          exact ⟨by omega, by show e ≤ s.2.2; omega⟩
        · rw [if_neg q] at he; exact h1 j e he
      · show s.2.2 ≤ _
        rw [ct]; omega
      · intro m hm
        obtain ⟨p1, p2, e, p3, p4⟩ := h3 m hm
        exact ⟨p1, p2, e, by dsimp only; rw [if_neg (ne _ _ p3)]; exact p3, p4⟩
    | false =>
      rw [if_neg (by decide)]
      refine ⟨⟨?_, ?_, ?_⟩, Nat.le_succ _, fun m hm => by dsimp only; rw [if_neg (by omega)]⟩
      · intro j e he
        dsimp only at he ⊢
        by_cases q : j = x
        · rw [if_pos q] at he
          injection he with he
          exact ⟨by omega, by omega⟩
        · rw [if_neg q] at he
          have := h1 j e he
          exact ⟨this.1, by omega⟩
      · show s.2.2 + 1 ≤ _
        rw [ct]; omega
      · intro m hm
        dsimp only at hm ⊢
        by_cases q : m = s.2.2
        · rw [if_pos q, if_pos rfl]
          exact ⟨hx, hw, _, rfl, by omega⟩
        · rw [if_neg q]
          obtain ⟨p1, p2, e, p3, p4⟩ := h3 m (by omega)
          exact ⟨p1, p2, e, by rw [if_neg (ne _ _ p3)]; exact p3, p4⟩
theorem bI_K {W H wl i c : Nat} {s : bS} (hW : 0 < W) (hWH : W * H ≤ 36) (h : bI W H wl s) (hi : i < s.2.2) (hc : s.2.1 i = c) : ∀ k, bI W H wl (bK W H wl c s k) ∧ s.2.2 ≤ (bK W H wl c s k).2.2 ∧ (∀ m, m < s.2.2 → (bK W H wl c s k).2.1 m = s.2.1 m) := by
  intro k
  induction k with
  | zero => exact ⟨h, Nat.le_refl _, fun _ _ => rfl⟩
  | succ k ih =>
    unfold bK
    cases hb : sBeside W H c (nI (k + 1)) with
    | none => exact ih
    | some x =>
      have hcl : c < W * H := hc ▸ (h.2.2 i hi).1
      have := bI_try (i := i) (c := c) ih.1 (by omega) (by rw [ih.2.2 i hi]; exact hc) (sBeside_lt hW hcl hb) hWH
      exact ⟨this.1, Nat.le_trans ih.2.1 this.2.1, fun m hm => by rw [this.2.2 m (by omega)]; exact ih.2.2 m hm⟩
theorem bI_run {W H wl a : Nat} (hW : 0 < W) (hWH : W * H ≤ 36) (ha : a < W * H) : ∀ i, bI W H wl (bRun W H wl a i) := by
  intro i
  induction i with
  | zero =>
    unfold bRun
    refine ⟨?_, ?_, ?_⟩
    · intro j d h
      dsimp only at h
      by_cases q : j = a
      · rw [if_pos q] at h; injection h with h
        exact ⟨by omega, by omega⟩
      · rw [if_neg q] at h; cases h
    · dsimp only
      have : 0 < fb_ct (fun j => (if j = a then some 0 else none : Option Nat).isSome) 36 := fb_ct_pos.mpr ⟨a, by omega, by rw [if_pos rfl]; rfl⟩
      split <;> omega
    · intro m hm
      dsimp only at hm ⊢
      cases hw : wl.testBit a with
      | true => rw [hw, if_pos rfl] at hm; omega
      | false => exact ⟨ha, rfl, 0, if_pos rfl, by omega⟩
  | succ i ih =>
    unfold bRun
    by_cases q : i < (bRun W H wl a i).2.2
    · rw [if_pos q]; exact (bI_K hW hWH ih q rfl 4).1
    · rw [if_neg q]; exact ih
/-- the end of the queue is reached -/
theorem bRun_stop {W H wl a i : Nat} (h : ¬ i < (bRun W H wl a i).2.2) : ∀ n, bRun W H wl a (i + n) = bRun W H wl a i
  | 0 => rfl
  | n + 1 => by
    have ih := bRun_stop h n
    show (if i + n < (bRun W H wl a (i + n)).2.2 then _ else bRun W H wl a (i + n)) = _
    rw [ih, if_neg (by omega)]
/-- far and queue as the class and as the reference keep them -/
def bE (en : Option Nat → Int32) (s : bS) (fr qu : Nat → Int32) : Prop := (∀ j, j < 36 → fr j = en (s.1 j)) ∧ ∀ i, i < s.2.2 → qu i = nI (s.2.1 i)
def encM (o : Option Nat) : Int32 := match o with
  | some c => nI c
  | none => 9999
theorem bE_try {en : Option Nat → Int32} {wl c x : Nat} {s : bS} {fr qu : Nat → Int32} {v : Int32} (h : bE en s fr qu) (hn : (s.1 x).isSome = false) (hv : v = en (some ((s.1 c).getD 0 + 1))) : bE en (bTry wl c s x) (upd fr x v) (if wl.testBit x then qu else upd qu s.2.2 (nI x)) := by
  unfold bTry
  rw [hn, if_neg (by decide)]
  refine ⟨?_, ?_⟩
  · intro j hj
    dsimp only
    by_cases q : j = x
    · subst q; rw [pk_us, if_pos rfl, hv]
    · rw [pk_un q, if_neg q]; exact h.1 j hj
  · cases hw : wl.testBit x with
    | true => exact h.2
    | false =>
      intro m hm
      rw [if_neg (by decide)] at hm ⊢
      dsimp only at hm ⊢
      by_cases q : m = s.2.2
      · subst q; rw [if_neg (by decide), pk_us]; show nI x = nI (if s.2.2 = s.2.2 then x else _); rw [if_pos rfl]
      · rw [if_neg (by decide), pk_un q]; show qu m = nI (if m = s.2.2 then x else s.2.1 m); rw [if_neg q]; exact h.2 m (by omega)
theorem nI_ne {a b : Nat} (ha : a < 2 ^ 31) (hb : b < 2 ^ 31) (h : ¬ a = b) : ¬ nI a = nI b := fun e => h (by rw [← nI_clamp ha, ← nI_clamp hb, e])
theorem c_fill {v : Int32} {fr : Nat → Int32} : zwp (f_J7_fill_53178 v 36 fr) (fun r => ∀ j, j < 36 → r j = v) := by
  unfold f_J7_fill_53178
  refine zl_bind (P := fun k a => ∃ r, a = (nI k, r) ∧ ∀ j, j < k → r j = v) (Post := fun r => ∀ j, j < 36 → r j = v) 36 (by decide) ⟨fr, rfl, fun j hj => by omega⟩ ?_ ?_ ?_
  · rintro k hk _ ⟨r, rfl, h⟩
    refine zi_f (by rw [show Int32.ofNat 36 = nI 36 from rfl]; exact nI_ge hk (by decide)) ?_
    rw [zbnd_nI (by omega) (by decide), nI_clamp (by omega), nI_1]
    refine zwi ⟨_, rfl, fun j hj => ?_⟩
    by_cases q : j = k
    · subst q; rw [pk_us]
    · rw [pk_un q]; exact h j (by omega)
  · rintro _ ⟨r, rfl, h⟩
    exact zi_t (by decide) (zwi h)
  · intro r h; exact zwi h
theorem c_measure {W H wl a : Nat} {fr qu : Nat → Int32} (hW : 2 ≤ W) (hW6 : W ≤ 6) (hH : H ≤ 6) (hWH : W * H ≤ 36) (hwl : wl < 2 ^ 63) (ha : a < W * H) : zwp (f_X10_measure (nI a) fr (nI H) (nI W) qu (lN wl)) (fun r => ∀ j, j < 36 → r.1 j = enc (sFar W H wl a j)) := by
  unfold f_X10_measure
  refine zi_bind (zwp_mono c_fill ?_)
  intro r0 h0
  rw [zbnd_nI (by omega) (by decide)]
  refine zi_beq (c_isWall hwl (by omega)) ?_
  refine zi_beq (a := nI (if wl.testBit a then 0 else 1)) (by cases wl.testBit a <;> rfl) ?_
  rw [nI_clamp (show a < 2 ^ 31 by omega)]
  refine zl_bind (P := fun i x => ∃ f q, x = (nI (bRun W H wl a i).2.2, nI i, f, q) ∧ bE enc (bRun W H wl a i) f q) (Post := fun b => ∀ j, j < 36 → b.1 j = enc (sFar W H wl a j)) 36 (by decide) ⟨_, _, rfl, ?_, ?_⟩ ?_ ?_ ?_
  · intro j hj
    show upd r0 a 0 j = enc (if j = a then some 0 else none)
    by_cases q : j = a
    · subst q; rw [pk_us, if_pos rfl]; rfl
    · rw [pk_un q, if_neg q]; exact h0 j hj
  · intro i hi
    have : i = 0 := by
      have : i < (if wl.testBit a then 0 else 1) := hi
      cases hq : wl.testBit a <;> rw [hq] at this <;> simp at this
      exact this
    subst this
    show upd qu 0 (nI a) 0 = nI a
    rw [pk_us]
  · rintro i hi _ ⟨f, q, rfl, hE⟩
    have hI := bI_run (wl := wl) (show 0 < W by omega) hWH ha i
    have hle := bI_le hI
    by_cases hq : i < (bRun W H wl a i).2.2
    · refine zi_f (nI_ge hq (by omega)) ?_
      refine zi_f (by rw [show (36 : Int32) = nI 36 from rfl]; exact nI_ge hi (by decide)) ?_
      rw [zbnd_nI (by omega) (by decide), nI_clamp (show i < 2 ^ 31 by omega), hE.2 i hq]
      have hc : (bRun W H wl a i).2.1 i < W * H := (hI.2.2 i hq).1
      have hKs := bI_K (c := (bRun W H wl a i).2.1 i) (show 0 < W by omega) hWH hI hq rfl
      have hnx : bRun W H wl a (i + 1) = bK W H wl ((bRun W H wl a i).2.1 i) (bRun W H wl a i) 4 := if_pos hq
      revert hc hKs hnx
      generalize hci : (bRun W H wl a i).2.1 i = c
      intro hc hKs hnx
      have hd : ∀ k, ∃ d, (bK W H wl c (bRun W H wl a i) k).1 c = some d ∧ d ≤ 36 := fun k => by
        obtain ⟨d, e1, e2⟩ := ((hKs k).1.2.2 i (Nat.lt_of_lt_of_le hq (hKs k).2.1)).2.2
        rw [(hKs k).2.2 i hq, hci] at e1
        exact ⟨d, e1, by omega⟩
      refine zl_bind (P := fun k x => ∃ f' q', x = (nI (bK W H wl c (bRun W H wl a i) k).2.2, nI (k + 1), f', q') ∧ bE enc (bK W H wl c (bRun W H wl a i) k) f' q') (Post := fun b => ∃ f' q', b = (nI (bK W H wl c (bRun W H wl a i) 4).2.2, f', q') ∧ bE enc (bK W H wl c (bRun W H wl a i) 4) f' q') 4 (by decide) ⟨_, _, rfl, hE⟩ ?_ ?_ ?_
      · rintro k hk _ ⟨f', q', rfl, hF⟩
        refine zi_f (by rw [show (4 : Int32) = nI 4 from rfl]; exact nI_nlt (by omega) (by omega)) ?_
        refine zi_beq (c_beside hW hW6 hH hc (by omega)) ?_
        obtain ⟨d, hd1, hd2⟩ := hd k
        have hIk := (hKs k).1
        have hK1 : bK W H wl c (bRun W H wl a i) (k + 1) = match sBeside W H c (nI (k + 1)) with | none => bK W H wl c (bRun W H wl a i) k | some x => bTry wl c (bK W H wl c (bRun W H wl a i) k) x := rfl
        revert hK1
        cases hb : sBeside W H c (nI (k + 1)) with
        | none =>
          intro hK1
          exact zi_t rfl (zwi ⟨f', q', by rw [hK1, nI_1], by rw [hK1]; exact hF⟩)
        | some x =>
          intro hK1
          have hx := sBeside_lt (by omega) hc hb
          refine zi_f (fun e => by have := (enc_none (o := some x) (fun c q => by injection q with q; omega)).mp e; cases this) ?_
          rw [show enc (some x) = nI x from rfl]
          rw [zbnd_nI (by omega) (by decide), nI_clamp (show x < 2 ^ 31 by omega), nI_clamp (show c < 2 ^ 31 by omega), hF.1 x (by omega), hF.1 c (by omega), hd1]
          cases hm : (bK W H wl c (bRun W H wl a i) k).1 x with
          | some e =>
            have he := (hIk.1 x e hm).2
            have := bI_le hIk
            refine zi_f (fun e' => by have := (enc_none (o := some e) (fun c q => by injection q with q; omega)).mp e'; cases this) ?_
            have hT : bTry wl c (bK W H wl c (bRun W H wl a i) k) x = bK W H wl c (bRun W H wl a i) k := if_pos (by rw [hm]; rfl)
            exact zwi ⟨f', q', by rw [hK1]; dsimp only; rw [hT, nI_1], by rw [hK1]; dsimp only; rw [hT]; exact hF⟩
          | none =>
            have hT0 : ((bK W H wl c (bRun W H wl a i) k).1 x).isSome = false := by rw [hm]; rfl
            have hlt := bI_lt hIk (by omega) hT0
            have hbe := bE_try (wl := wl) (c := c) (x := x) (v := nI d + 1) hF hT0 (by rw [hd1, nI_1]; rfl)
            have hT2 : (bTry wl c (bK W H wl c (bRun W H wl a i) k) x).2.2 = if wl.testBit x then (bK W H wl c (bRun W H wl a i) k).2.2 else (bK W H wl c (bRun W H wl a i) k).2.2 + 1 := by
              unfold bTry
              rw [hT0, if_neg (by decide)]
              show (if wl.testBit x then _ else _ : (Nat → Nat) × Nat).2 = _
              cases wl.testBit x <;> rfl
            refine zi_t rfl ?_
            rw [zbnd_nI (by omega) (by decide), zbnd_nI (by omega) (by decide)]
            refine zi_beq (c_isWall hwl (by omega)) ?_
            cases hw : wl.testBit x with
            | true =>
              rw [hw, if_pos rfl] at hT2 hbe
              exact zi_f (by decide) (zwi ⟨_, _, by rw [hK1]; dsimp only; rw [hT2, nI_1], by rw [hK1]; exact hbe⟩)
            | false =>
              rw [hw, if_neg (by decide)] at hT2 hbe
              refine zi_t rfl (zi_f (by rw [show (36 : Int32) = nI 36 from rfl]; exact nI_ge hlt (by decide)) ?_)
              rw [zbnd_nI hlt (by decide), nI_clamp (by omega)]
              exact zwi ⟨_, _, by rw [hK1]; dsimp only; rw [hT2, nI_1, nI_1], by rw [hK1]; exact hbe⟩
      · rintro _ ⟨f', q', rfl, hF⟩
        exact zi_t (by decide) (zwi ⟨f', q', rfl, hF⟩)
      · rintro _ ⟨f', q', rfl, hF⟩
        exact zwi ⟨f', q', by rw [nI_1, hnx], by rw [hnx]; exact hF⟩
    · refine zi_t (nI_le (by omega) (by omega)) (zwi ?_)
      have hs := bRun_stop hq (36 - i)
      rw [show i + (36 - i) = 36 by omega] at hs
      intro j hj
      show f j = enc ((bRun W H wl a 36).1 j)
      rw [hs]
      exact hE.1 j hj
  · rintro _ ⟨f, q, rfl, hE⟩
    have hle := bI_le (bI_run (wl := wl) (show 0 < W by omega) hWH ha 36)
    exact zi_t (nI_le (by omega) (by omega)) (zwi hE.1)
  · intro b h; exact zwi h
theorem m_laysFar {W H wl a : Nat} {fr qu rows : Nat → Int32} (hW : 2 ≤ W) (hW6 : W ≤ 6) (hH : H ≤ 6) (hWH : W * H ≤ 36) (hR : ∀ c, c < 36 → rows (0 + 33 + c) = b2 (wl.testBit c)) (ha : a < W * H) : zwp (f_X12_laysFar (nI a) fr qu rows (nI H) (nI W)) (fun r => ∀ j, j < 36 → r.1 j = encM (sFar W H wl a j)) := by
  unfold f_X12_laysFar
  refine zl_bind (P := fun k a => ∃ r, a = (nI k, r) ∧ ∀ j, j < k → r j = 9999) (Post := fun r => ∀ j, j < 36 → r j = 9999) 36 (by decide) ⟨fr, rfl, fun j hj => by omega⟩ ?_ ?_ ?_
  · rintro k hk _ ⟨r, rfl, h⟩
    refine zi_f (by rw [show (36 : Int32) = nI 36 from rfl]; exact nI_ge hk (by decide)) ?_
    rw [zbnd_nI (by omega) (by decide), nI_clamp (by omega), nI_1]
    refine zwi ⟨_, rfl, fun j hj => ?_⟩
    by_cases q : j = k
    · subst q; rw [pk_us]
    · rw [pk_un q]; exact h j (by omega)
  · rintro _ ⟨r, rfl, h⟩
    exact zi_t (by decide) (zwi h)
  intro r0 h0
  rw [zbnd_nI (by omega) (by decide), show (33 : Int32) + nI a = nI (0 + 33 + a) by rw [show (33 : Int32) = nI 33 from rfl, nI_add, Nat.zero_add], zbnd_nI (by omega) (by decide), nI_clamp (show 0 + 33 + a < 2 ^ 31 by omega), hR a (by omega), nI_clamp (show a < 2 ^ 31 by omega)]
  refine zi_bind (zwp_mono (Q := fun b => b.1 = nI (if wl.testBit a then 0 else 1) ∧ (wl.testBit a = false → b.2 0 = nI a)) ?_ ?_)
  · cases wl.testBit a with
    | true => exact zi_f (by decide) (zwi ⟨rfl, fun h => by cases h⟩)
    | false => exact zi_t rfl (zwi ⟨rfl, fun _ => by show upd qu 0 (nI a) 0 = nI a; rw [pk_us]⟩)
  rintro ⟨j5, j6⟩ ⟨e1, e2⟩
  dsimp only at e1 e2 ⊢
  subst e1
  refine zl_bind (P := fun i x => ∃ f q, x = (nI i, nI (bRun W H wl a i).2.2, f, q) ∧ bE encM (bRun W H wl a i) f q) (Post := fun b => ∀ j, j < 36 → b.1 j = encM (sFar W H wl a j)) 36 (by decide) ⟨_, _, rfl, ?_, ?_⟩ ?_ ?_ ?_
  · intro j hj
    show upd r0 a 0 j = encM (if j = a then some 0 else none)
    by_cases q : j = a
    · subst q; rw [pk_us, if_pos rfl]; rfl
    · rw [pk_un q, if_neg q]; exact h0 j hj
  · intro i hi
    have hi' : i < (if wl.testBit a then 0 else 1) := hi
    cases hq : wl.testBit a with
    | true => rw [hq] at hi'; simp at hi'
    | false =>
      rw [hq] at hi'; simp at hi'
      subst hi'
      exact e2 hq
  · rintro i hi _ ⟨f, q, rfl, hE⟩
    have hI := bI_run (wl := wl) (show 0 < W by omega) hWH ha i
    have hle := bI_le hI
    by_cases hq : i < (bRun W H wl a i).2.2
    · refine zi_f (nI_ge hq (by omega)) ?_
      dsimp only
      rw [zbnd_nI (by omega) (by decide), nI_clamp (show i < 2 ^ 31 by omega), hE.2 i hq]
      have hc : (bRun W H wl a i).2.1 i < W * H := (hI.2.2 i hq).1
      have hKs := bI_K (c := (bRun W H wl a i).2.1 i) (show 0 < W by omega) hWH hI hq rfl
      have hnx : bRun W H wl a (i + 1) = bK W H wl ((bRun W H wl a i).2.1 i) (bRun W H wl a i) 4 := if_pos hq
      revert hc hKs hnx
      generalize hci : (bRun W H wl a i).2.1 i = c
      intro hc hKs hnx
      have hd : ∀ k, ∃ d, (bK W H wl c (bRun W H wl a i) k).1 c = some d ∧ d ≤ 36 := fun k => by
        obtain ⟨d, e1, e2⟩ := ((hKs k).1.2.2 i (Nat.lt_of_lt_of_le hq (hKs k).2.1)).2.2
        rw [(hKs k).2.2 i hq, hci] at e1
        exact ⟨d, e1, by omega⟩
      refine zl_bind (P := fun k x => ∃ f' q', x = (nI (bK W H wl c (bRun W H wl a i) k).2.2, nI (k + 1), f', q') ∧ bE encM (bK W H wl c (bRun W H wl a i) k) f' q') (Post := fun b => ∃ f' q', b = (nI (bK W H wl c (bRun W H wl a i) 4).2.2, f', q') ∧ bE encM (bK W H wl c (bRun W H wl a i) 4) f' q') 4 (by decide) ⟨_, _, rfl, hE⟩ ?_ ?_ ?_
      · rintro k hk _ ⟨f', q', rfl, hF⟩
        refine zi_f (by rw [show (5 : Int32) = nI 5 from rfl]; exact nI_ge (by omega) (by omega)) ?_
        refine zi_beq (m_beside hW hW6 hH hc (by omega)) ?_
        obtain ⟨d, hd1, hd2⟩ := hd k
        have hIk := (hKs k).1
        have hK1 : bK W H wl c (bRun W H wl a i) (k + 1) = match sBeside W H c (nI (k + 1)) with | none => bK W H wl c (bRun W H wl a i) k | some x => bTry wl c (bK W H wl c (bRun W H wl a i) k) x := rfl
        revert hK1
        cases hb : sBeside W H c (nI (k + 1)) with
        | none =>
          intro hK1
          exact zi_t rfl (zwi ⟨f', q', by rw [hK1, nI_1], by rw [hK1]; exact hF⟩)
        | some x =>
          intro hK1
          have hx := sBeside_lt (by omega) hc hb
          refine zi_f (fun e => by have := (enc_none (o := some x) (fun c q => by injection q with q; omega)).mp e; cases this) ?_
          rw [show enc (some x) = nI x from rfl]
          dsimp only
          rw [zbnd_nI (by omega) (by decide), nI_clamp (show x < 2 ^ 31 by omega), nI_clamp (show c < 2 ^ 31 by omega), hF.1 c (by omega), hd1]
          have hfx := hF.1 x (by omega)
          cases hm : (bK W H wl c (bRun W H wl a i) k).1 x with
          | some e =>
            have he := (hIk.1 x e hm).2
            have := bI_le hIk
            refine zi_f (by rw [hfx, hm]; exact nI_ge (b := 9999) (by omega) (by omega)) ?_
            have hT : bTry wl c (bK W H wl c (bRun W H wl a i) k) x = bK W H wl c (bRun W H wl a i) k := if_pos (by rw [hm]; rfl)
            exact zwi ⟨f', q', by rw [hK1]; dsimp only; rw [hT, nI_1], by rw [hK1]; dsimp only; rw [hT]; exact hF⟩
          | none =>
            have hT0 : ((bK W H wl c (bRun W H wl a i) k).1 x).isSome = false := by rw [hm]; rfl
            have hlt := bI_lt hIk (by omega) hT0
            have hbe := bE_try (wl := wl) (c := c) (x := x) (v := nI d + 1) hF hT0 (by rw [hd1, nI_1]; rfl)
            have hT2 : (bTry wl c (bK W H wl c (bRun W H wl a i) k) x).2.2 = if wl.testBit x then (bK W H wl c (bRun W H wl a i) k).2.2 else (bK W H wl c (bRun W H wl a i) k).2.2 + 1 := by
              unfold bTry
              rw [hT0, if_neg (by decide)]
              show (if wl.testBit x then _ else _ : (Nat → Nat) × Nat).2 = _
              cases wl.testBit x <;> rfl
            refine zi_t (by rw [hfx, hm]; decide) ?_
            rw [zbnd_nI (by omega) (by decide), zbnd_nI (by omega) (by decide)]
            rw [show (33 : Int32) + nI x = nI (0 + 33 + x) by rw [show (33 : Int32) = nI 33 from rfl, nI_add, Nat.zero_add], zbnd_nI (by omega) (by decide), nI_clamp (by omega), hR x (by omega)]
            cases hw : wl.testBit x with
            | true =>
              rw [hw, if_pos rfl] at hT2 hbe
              exact zi_t rfl (zwi ⟨_, _, by rw [hK1]; dsimp only; rw [hT2, nI_1], by rw [hK1]; exact hbe⟩)
            | false =>
              rw [hw, if_neg (by decide)] at hT2 hbe
              refine zi_f (by decide) ?_
              rw [zbnd_nI hlt (by decide), nI_clamp (by omega)]
              exact zwi ⟨_, _, by rw [hK1]; dsimp only; rw [hT2, nI_1, nI_1], by rw [hK1]; exact hbe⟩
      · rintro _ ⟨f', q', rfl, hF⟩
        exact zi_t (show (5 : Int32) ≤ nI (4 + 1) by decide) (zwi ⟨f', q', rfl, hF⟩)
      · rintro _ ⟨f', q', rfl, hF⟩
        exact zwi ⟨f', q', by rw [nI_1, hnx], by rw [hnx]; exact hF⟩
    · refine zi_t (nI_le (by omega) (by omega)) (zwi ?_)
      have hs := bRun_stop hq (36 - i)
      rw [show i + (36 - i) = 36 by omega] at hs
      intro j hj
      show f j = encM ((bRun W H wl a 36).1 j)
      rw [hs]
      exact hE.1 j hj
  · rintro _ ⟨f, q, rfl, hE⟩
    have hle := bI_le (bI_run (wl := wl) (show 0 < W by omega) hWH ha 36)
    exact zi_t (nI_le (by omega) (by omega)) (zwi hE.1)
  · intro b h; exact zwi h
