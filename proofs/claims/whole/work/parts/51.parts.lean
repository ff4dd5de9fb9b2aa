/-! PARTS: what can be reached -/
def Rch (W H wl a b : Nat) : Prop := ∀ S : Nat → Prop, S a → (∀ c x k, S c → wl.testBit c = false → k < 4 → sBeside W H c (nI (k + 1)) = some x → S x) → S b
theorem Rch.refl {W H wl a : Nat} : Rch W H wl a a := fun _ h _ => h
theorem Rch.step {W H wl a c x k : Nat} (h : Rch W H wl a c) (h1 : wl.testBit c = false) (h2 : k < 4) (h3 : sBeside W H c (nI (k + 1)) = some x) : Rch W H wl a x := fun S s0 s1 => s1 c x k (h S s0 s1) h1 h2 h3
theorem Rch.trans {W H wl a b c : Nat} (h : Rch W H wl a b) (g : Rch W H wl b c) : Rch W H wl a c := g _ h (fun _ _ _ => Rch.step)
def oChk (W H x k : Nat) : Bool := W == 0 || !decide (x < W * H) || (match sBeside W H x (nI (k + 1)) with | none => true | some y => sBeside W H y (nI ((k + 2) % 4 + 1)) == some x)
theorem oChk_all : ∀ W, W < 7 → ∀ H, H < 7 → ∀ x, x < 36 → ∀ k, k < 4 → oChk W H x k = true := by decide +kernel
theorem bes_opp {W H x y k : Nat} (hW : W < 7) (hH : H < 7) (h0 : 0 < W) (hWH : W * H ≤ 36) (hx : x < W * H) (hk : k < 4) (h : sBeside W H x (nI (k + 1)) = some y) : sBeside W H y (nI ((k + 2) % 4 + 1)) = some x := by
  have := oChk_all W hW H hH x (by omega) k hk
  unfold oChk at this
  rw [show (W == 0) = false from beq_false_of_ne (by omega), decide_eq_true hx, h] at this
  simpa using this
theorem Rch.lt {W H wl a b : Nat} (h0 : 0 < W) (ha : a < W * H) (h : Rch W H wl a b) : b < W * H := h _ ha (fun _ _ _ ih _ _ h3 => sBeside_lt h0 ih h3)
theorem Rch.symm {W H wl a b : Nat} (hW : W < 7) (hH : H < 7) (h0 : 0 < W) (hWH : W * H ≤ 36) (ha : a < W * H) (h : Rch W H wl a b) : wl.testBit b = false → Rch W H wl b a := by
  refine (h (fun x => x < W * H ∧ (wl.testBit x = false → Rch W H wl x a)) ⟨ha, fun _ => Rch.refl⟩ ?_).2
  rintro c x k ⟨hc, ih⟩ h1 h2 h3
  exact ⟨sBeside_lt h0 hc h3, fun hb => Rch.trans (Rch.step Rch.refl hb (Nat.mod_lt _ (by decide)) (bes_opp hW hH h0 hWH hc h2 h3)) (ih h1)⟩
/-- what is marked is reached, what is marked and no wall is queued -/
def bJ (W H wl a : Nat) (s : bS) : Prop := (∀ j, (s.1 j).isSome = true → Rch W H wl a j) ∧ ∀ j, (s.1 j).isSome = true → wl.testBit j = false → ∃ m, m < s.2.2 ∧ s.2.1 m = j
theorem bTry_some {wl c x j : Nat} {s : bS} : ((bTry wl c s x).1 j).isSome = true ↔ ((s.1 j).isSome = true ∨ j = x) := by
  unfold bTry
  by_cases h : (s.1 x).isSome = true
  · rw [if_pos h]
    exact ⟨fun q => .inl q, fun q => by rcases q with q | q; exact q; rw [q]; exact h⟩
  · rw [if_neg h]
    dsimp only
    by_cases q : j = x
    · rw [if_pos q]; exact ⟨fun _ => .inr q, fun _ => rfl⟩
    · rw [if_neg q]; exact ⟨fun h => .inl h, fun h => h.resolve_right q⟩
theorem bJ_try {W H wl a c x k : Nat} {s : bS} (h : bJ W H wl a s) (hc : Rch W H wl a c) (hcw : wl.testBit c = false) (hk : k < 4) (hb : sBeside W H c (nI (k + 1)) = some x) : bJ W H wl a (bTry wl c s x) := by
  refine ⟨fun j hj => ?_, fun j hj hw => ?_⟩
  · rcases bTry_some.mp hj with q | q
    · exact h.1 j q
    · rw [q]; exact Rch.step hc hcw hk hb
  · by_cases hx : (s.1 x).isSome = true
    · have e : bTry wl c s x = s := if_pos hx
      rw [e] at hj ⊢
      exact h.2 j hj hw
    · have e : bTry wl c s x = _ := if_neg hx
      rw [e]
      rcases bTry_some.mp hj with q | q
      · obtain ⟨m, h1, h2⟩ := h.2 j q hw
        cases hwx : wl.testBit x with
        | true => exact ⟨m, h1, h2⟩
        | false => exact ⟨m, Nat.lt_succ_of_lt h1, by show (if m = s.2.2 then x else s.2.1 m) = j; rw [if_neg (by omega)]; exact h2⟩
      · subst q
        rw [hw, if_neg (by decide)]
        exact ⟨s.2.2, Nat.lt_succ_self _, by show (if s.2.2 = s.2.2 then j else _) = j; rw [if_pos rfl]⟩
theorem bK_mono {W H wl c j : Nat} {s : bS} (h : (s.1 j).isSome = true) : ∀ k, ((bK W H wl c s k).1 j).isSome = true := by
  intro k
  induction k with
  | zero => exact h
  | succ k ih =>
    unfold bK
    cases hb : sBeside W H c (nI (k + 1)) with
    | none => exact ih
    | some x => exact bTry_some.mpr (.inl ih)
theorem bJ_K {W H wl a c : Nat} {s : bS} (h : bJ W H wl a s) (hc : Rch W H wl a c) (hcw : wl.testBit c = false) : ∀ k, k ≤ 4 → bJ W H wl a (bK W H wl c s k) ∧ ∀ k', k' < k → ∀ x, sBeside W H c (nI (k' + 1)) = some x → ((bK W H wl c s k).1 x).isSome = true := by
  intro k
  induction k with
  | zero => intro _; exact ⟨h, fun k' hk' => by omega⟩
  | succ k ih =>
    intro hk
    have ih := ih (by omega)
    unfold bK
    cases hb : sBeside W H c (nI (k + 1)) with
    | none =>
      refine ⟨ih.1, fun k' hk' x hx => ?_⟩
      by_cases q : k' = k
      · subst q; rw [hb] at hx; cases hx
      · exact ih.2 k' (by omega) x hx
    | some y =>
      refine ⟨bJ_try ih.1 hc hcw (by omega) hb, fun k' hk' x hx => ?_⟩
      by_cases q : k' = k
      · subst q; rw [hb] at hx; injection hx with hx
        exact bTry_some.mpr (.inr hx.symm)
      · exact bTry_some.mpr (.inl (ih.2 k' (by omega) x hx))
theorem bJ_run {W H wl a : Nat} (hW : 0 < W) (hWH : W * H ≤ 36) (ha : a < W * H) : ∀ i, bJ W H wl a (bRun W H wl a i) ∧ ((bRun W H wl a i).1 a).isSome = true ∧ ∀ m, m < i → m < (bRun W H wl a i).2.2 → ∀ k, k < 4 → ∀ x, sBeside W H ((bRun W H wl a i).2.1 m) (nI (k + 1)) = some x → ((bRun W H wl a i).1 x).isSome = true := by
  intro i
  induction i with
  | zero =>
    unfold bRun
    refine ⟨⟨fun j hj => ?_, fun j hj hw => ?_⟩, by dsimp only; rw [if_pos rfl]; rfl, fun m hm => by omega⟩
    · dsimp only at hj
      by_cases q : j = a
      · rw [q]; exact Rch.refl
      · rw [if_neg q] at hj; cases hj
    · dsimp only at hj ⊢
      by_cases q : j = a
      · subst q; rw [hw]; exact ⟨0, by decide, rfl⟩
      · rw [if_neg q] at hj; cases hj
  | succ i ih =>
    obtain ⟨i1, i2, i3⟩ := ih
    have hI := bI_run (wl := wl) hW hWH ha i
    unfold bRun
    by_cases q : i < (bRun W H wl a i).2.2
    · rw [if_pos q]
      obtain ⟨p1, p2, d, p3, p4⟩ := hI.2.2 i q
      have hr : Rch W H wl a ((bRun W H wl a i).2.1 i) := i1.1 _ (by rw [p3]; rfl)
      have hK := bJ_K i1 hr p2 4 (Nat.le_refl _)
      have hKs := bI_K (c := (bRun W H wl a i).2.1 i) hW hWH hI q rfl 4
      refine ⟨hK.1, bK_mono i2 4, fun m hm hm2 k hk x hx => ?_⟩
      rw [hKs.2.2 m (by omega)] at hx
      by_cases e : m = i
      · subst e; exact hK.2 k hk x hx
      · exact bK_mono (i3 m (by omega) (by omega) k hk x hx) 4
    · rw [if_neg q]
      exact ⟨i1, i2, fun m hm hm2 => i3 m (by omega) hm2⟩
theorem far_rch {W H wl a j : Nat} (hW : 0 < W) (hWH : W * H ≤ 36) (ha : a < W * H) : (sFar W H wl a j).isSome = true ↔ Rch W H wl a j := by
  obtain ⟨h1, h2, h3⟩ := bJ_run (wl := wl) hW hWH ha 36
  have hle := bI_le (bI_run (wl := wl) hW hWH ha 36)
  refine ⟨h1.1 j, fun h => ?_⟩
  refine h (fun j => (sFar W H wl a j).isSome = true) h2 ?_
  intro c x k ih g1 g2 g3
  obtain ⟨m, m1, m2⟩ := h1.2 _ ih g1
  subst m2
  exact h3 m (by omega) m1 _ g2 _ g3
def newB (W H wl c : Nat) : Bool := !wl.testBit c && allB (fun b => !(sFar W H wl c b).isSome || wl.testBit b) c
def sParts (W H wl : Nat) : Nat := fb_ct (newB W H wl) (W * H)
theorem seen_step {W H wl c : Nat} (hW : W < 7) (hH : H < 7) (h0 : 0 < W) (hWH : W * H ≤ 36) (hc : c < W * H) (hw : wl.testBit c = false) : newB W H wl c = true ↔ ¬ ∃ r, r < c ∧ wl.testBit r = false ∧ (sFar W H wl r c).isSome = true := by
  unfold newB
  rw [hw]
  show (true && _) = true ↔ _
  rw [Bool.true_and, allB_iff]
  constructor
  · rintro h ⟨r, h1, h2, h3⟩
    have := h r h1
    have hs := (far_rch h0 hWH (by omega : r < W * H)).mp h3
    have := (far_rch h0 hWH hc).mpr (hs.symm hW hH h0 hWH (by omega) hw)
    have h4 := h r h1
    rw [this, h2] at h4
    cases h4
  · intro h b hb
    cases hwb : wl.testBit b with
    | true => rw [Bool.or_true]
    | false =>
      cases hf : (sFar W H wl c b).isSome with
      | false => rfl
      | true =>
        have hs := (far_rch h0 hWH hc).mp hf
        exact absurd ⟨b, hb, hwb, (far_rch h0 hWH (by omega : b < W * H)).mpr (hs.symm hW hH h0 hWH hc hwb)⟩ h
theorem c_parts {W H wl : Nat} {fr qu : Nat → Int32} (hW : 2 ≤ W) (hW6 : W ≤ 6) (hH : H ≤ 6) (hWH : W * H ≤ 36) (hwl : wl < 2 ^ 36) : zwp (f_X10_parts fr (nI H) (nI W) qu (lN wl)) (fun r => r.1 = nI (sParts W H wl)) := by
  unfold f_X10_parts sParts
  have h0 : 0 < W := by omega
  refine zl_bind (P := fun c a => ∃ S f q, a = (lN S, nI (fb_ct (newB W H wl) c), nI c, f, q) ∧ S < 2 ^ 36 ∧ ∀ j, j < 36 → (S.testBit j = true ↔ (wl.testBit j = true ∨ ∃ r, r < c ∧ wl.testBit r = false ∧ (sFar W H wl r j).isSome = true))) (Post := fun b => b.2.1 = nI (fb_ct (newB W H wl) (W * H))) (W * H) (by omega) ⟨wl, _, _, rfl, hwl, fun j hj => ⟨fun h => .inl h, fun h => h.elim id (fun ⟨r, h, _⟩ => by omega)⟩⟩ ?_ ?_ ?_
  · rintro c hc _ ⟨S, f, q, rfl, hS, hb⟩
    dsimp only
    unfold f_X3_cells
    refine zi_beq rfl ?_
    rw [pk_mul]
    refine zi_f (nI_ge hc (by omega)) ?_
    have key := hb c (by omega)
    by_cases hsn : S.testBit c = true
    · refine zi_f (fun e => by rw [(wall_bit (by omega) (by omega)).mp e] at hsn; cases hsn) ?_
      have hnew : newB W H wl c = false := by
        rcases key.mp hsn with h | h
        · unfold newB; rw [h]; rfl
        · cases hw : wl.testBit c with
          | true => unfold newB; rw [hw]; rfl
          | false =>
            cases hn : newB W H wl c with
            | false => rfl
            | true => exact absurd h ((seen_step (by omega) (by omega) h0 hWH hc hw).mp hn)
      refine zwi ⟨S, f, q, by rw [fb_ct_succ, hnew, nI_1]; rfl, hS, fun j hj => ?_⟩
      rw [hb j hj]
      constructor
      · rintro (h | ⟨r, h1, h2, h3⟩)
        · exact .inl h
        · exact .inr ⟨r, by omega, h2, h3⟩
      · rintro (h | ⟨r, h1, h2, h3⟩)
        · exact .inl h
        · by_cases e : r = c
          · subst e
            rcases key.mp hsn with h | ⟨r', g1, g2, g3⟩
            · rw [h2] at h; cases h
            · have t1 := (far_rch h0 hWH (by omega : r' < W * H)).mp g3
              have t2 := (far_rch h0 hWH hc).mp h3
              exact .inr ⟨r', g1, g2, (far_rch h0 hWH (by omega : r' < W * H)).mpr (t1.trans t2)⟩
          · exact .inr ⟨r, by omega, h2, h3⟩
    · have hsf : S.testBit c = false := by cases h : S.testBit c with | false => rfl | true => exact absurd h hsn
      refine zi_t ((wall_bit (by omega) (by omega)).mpr hsf) ?_
      have hw : wl.testBit c = false := by
        cases hw : wl.testBit c with
        | false => rfl
        | true => exact absurd (key.mpr (.inl hw)) hsn
      have hnew : newB W H wl c = true := (seen_step (by omega) (by omega) h0 hWH hc hw).mpr (fun h => hsn (key.mpr (.inr h)))
      refine zi_bind (zwp_mono (c_measure hW hW6 hH hWH (by omega) hc) ?_)
      rintro ⟨f', q'⟩ hf
      dsimp only at hf ⊢
      refine zl_bind (P := fun i a => ∃ T, a = (lN T, nI i) ∧ T < 2 ^ 36 ∧ ∀ j, j < 36 → (T.testBit j = true ↔ (S.testBit j = true ∨ (j < i ∧ (sFar W H wl c j).isSome = true)))) (Post := fun b => ∃ T, b = lN T ∧ T < 2 ^ 36 ∧ ∀ j, j < 36 → (T.testBit j = true ↔ (S.testBit j = true ∨ (sFar W H wl c j).isSome = true))) 36 (by decide) ⟨S, rfl, hS, fun j hj => ⟨fun h => .inl h, fun h => h.elim id (fun h => by omega)⟩⟩ ?_ ?_ ?_
      · rintro i hi _ ⟨T, rfl, hT, ht⟩
        refine zi_f (by rw [show (36 : Int32) = nI 36 from rfl]; exact nI_ge hi (by decide)) ?_
        rw [zbnd_nI (by omega) (by decide), nI_clamp (by omega)]
        have hfi := hf i hi
        dsimp only
        cases hs : sFar W H wl c i with
        | none =>
          refine zi_bind (zi_t (by rw [hfi, hs]; rfl) (zwi (zwi ⟨T, by rw [nI_1], hT, fun j hj => ?_⟩)))
          rw [ht j hj]
          constructor
          · rintro (h | h)
            · exact .inl h
            · exact .inr ⟨by omega, h.2⟩
          · rintro (h | h)
            · exact .inl h
            · by_cases e : j = i
              · subst e; rw [hs] at h; cases h.2
              · exact .inr ⟨by omega, h.2⟩
        | some d =>
          have hd := sFar_ok h0 hWH hc hs
          refine zi_bind (zi_f (fun e => by rw [hfi, hs] at e; have := (enc_none (o := some d) (fun c q => by injection q with q; omega)).mp e; cases this) (zwi (zwi ⟨T ||| 2 ^ i, by rw [nI_1, show (1 : Int64) = lN 1 from rfl, wb_shl 1 (by omega), Nat.one_mul, fb_orL], Nat.or_lt_two_pow hT (Nat.pow_lt_pow_right (by decide) hi), fun j hj => ?_⟩)))
          rw [Nat.testBit_or, Bool.or_eq_true, ht j hj, Nat.testBit_two_pow]
          constructor
          · rintro ((h | h) | h)
            · exact .inl h
            · exact .inr ⟨by omega, h.2⟩
            · have e : i = j := of_decide_eq_true h
              subst e
              exact .inr ⟨by omega, by rw [hs]; rfl⟩
          · rintro (h | h)
            · exact .inl (.inl h)
            · by_cases e : j = i
              · exact .inr (decide_eq_true e.symm)
              · exact .inl (.inr ⟨by omega, h.2⟩)
      · rintro _ ⟨T, rfl, hT, ht⟩
        exact zi_t (show (36 : Int32) ≤ nI 36 by decide) (zwi ⟨T, rfl, hT, fun j hj => by rw [ht j hj]; exact ⟨fun h => h.imp id (fun h => h.2), fun h => h.imp id (fun h => ⟨hj, h⟩)⟩⟩)
      · rintro _ ⟨T, rfl, hT, ht⟩
        refine zwi ⟨T, f', q', by rw [fb_ct_succ, hnew, nI_1, nI_1]; rfl, hT, fun j hj => ?_⟩
        rw [ht j hj, hb j hj]
        constructor
        · rintro ((h | ⟨r, h1, h2, h3⟩) | h)
          · exact .inl h
          · exact .inr ⟨r, by omega, h2, h3⟩
          · exact .inr ⟨c, by omega, hw, h⟩
        · rintro (h | ⟨r, h1, h2, h3⟩)
          · exact .inl (.inl h)
          · by_cases e : r = c
            · subst e; exact .inr h3
            · exact .inl (.inr ⟨r, by omega, h2, h3⟩)
  · rintro _ ⟨S, f, q, rfl, hS, hb⟩
    dsimp only
    unfold f_X3_cells
    refine zi_beq rfl ?_
    rw [pk_mul]
    exact zi_t (nI_le (Nat.le_refl _) (by omega)) (zwi rfl)
  · rintro ⟨y7, y8, y11, y12⟩ h
    exact zwi h
theorem m_parts {W H wl : Nat} {fr qu rows : Nat → Int32} (hW : 2 ≤ W) (hW6 : W ≤ 6) (hH : H ≤ 6) (hWH : W * H ≤ 36) (hR : ∀ c, c < 36 → rows (0 + 33 + c) = b2 (wl.testBit c)) : zwp (f_X12_parts fr qu rows (nI H) (nI W)) (fun r => r.1 = nI (sParts W H wl)) := by
  unfold f_X12_parts sParts
  have i33 : ∀ x : Nat, (33 : Int32) + nI x = nI (0 + 33 + x) := fun x => by rw [show (33 : Int32) = nI 33 from rfl, nI_add, Nat.zero_add]
  rw [pk_mul]
  refine zl_bind (P := fun c a => ∃ f q, a = (nI (fb_ct (newB W H wl) c), nI c, f, q)) (Post := fun b => b.1 = nI (fb_ct (newB W H wl) (W * H))) (W * H) (by omega) ⟨_, _, rfl⟩ ?_ ?_ ?_
  · rintro c hc _ ⟨f, q, rfl⟩
    refine zi_f (nI_ge hc (by omega)) ?_
    dsimp only
    rw [i33, zbnd_nI (by omega) (by decide), nI_clamp (show 0 + 33 + c < 2 ^ 31 by omega), hR c (by omega)]
    cases hw : wl.testBit c with
    | true => exact zi_t rfl (zwi ⟨f, q, by rw [fb_ct_succ, show newB W H wl c = false by unfold newB; rw [hw]; rfl, nI_1]; rfl⟩)
    | false =>
      refine zi_f (by decide) ?_
      refine zi_bind (zwp_mono (m_laysFar hW hW6 hH hWH hR hc) ?_)
      rintro ⟨f', q'⟩ hf
      dsimp only at hf ⊢
      refine zl_bind (P := fun i a => a = (b2 (allB (fun b => !(sFar W H wl c b).isSome || wl.testBit b) i), nI i)) (Post := fun b => b = b2 (allB (fun b => !(sFar W H wl c b).isSome || wl.testBit b) c)) c (by omega) rfl ?_ ?_ ?_
      · rintro i hi _ rfl
        refine zi_f (nI_ge hi (by omega)) ?_
        refine zi_bind (zwp_mono (Q := fun v => v = b2 (allB (fun b => !(sFar W H wl c b).isSome || wl.testBit b) (i + 1))) ?_ ?_)
        · have hs1 : allB (fun b => !(sFar W H wl c b).isSome || wl.testBit b) (i + 1) = (allB (fun b => !(sFar W H wl c b).isSome || wl.testBit b) i && (!(sFar W H wl c i).isSome || wl.testBit i)) := rfl
          rw [hs1]
          cases allB (fun b => !(sFar W H wl c b).isSome || wl.testBit b) i with
          | false => exact zi_t rfl (zwi rfl)
          | true =>
            refine zi_f (show ¬ b2 true = 0 by decide) ?_
            dsimp only
            rw [zbnd_nI (by omega) (by decide), nI_clamp (show i < 2 ^ 31 by omega), i33, nI_clamp (show 0 + 33 + i < 2 ^ 31 by omega), zbnd_nI (by omega) (by decide), hR i (by omega)]
            have hfi := hf i (by omega)
            cases hs : sFar W H wl c i with
            | none => exact zi_t (by rw [hfi, hs]; rfl) (zwi rfl)
            | some d =>
              have hd := sFar_ok (by omega) hWH hc hs
              refine zi_f (by rw [hfi, hs]; exact nI_ne (b := 9999) (by omega) (by omega) (by omega)) ?_
              cases wl.testBit i with
              | true => exact zi_t rfl (zwi rfl)
              | false => exact zi_f (by decide) (zwi rfl)
        · intro v e
          exact zwi (by rw [e, nI_1]; rfl)
      · rintro _ rfl
        exact zi_t (nI_le (Nat.le_refl _) (by omega)) (zwi rfl)
      · intro v e
        subst e
        have hn : newB W H wl c = allB (fun b => !(sFar W H wl c b).isSome || wl.testBit b) c := by unfold newB; rw [hw]; rfl
        rw [← hn]
        refine zi_beq (a := b2 (newB W H wl c)) (by cases newB W H wl c <;> rfl) ?_
        refine zwi ⟨f', q', ?_⟩
        rw [fb_ct_succ, nI_1]
        cases newB W H wl c with
        | true => rw [show b2 true = 1 from rfl, nI_1]; rfl
        | false => rw [show b2 false = nI 0 from rfl, nI_add]; rfl
  · rintro _ ⟨f, q, rfl⟩
    exact zi_t (nI_le (Nat.le_refl _) (by omega)) (zwi rfl)
  · rintro ⟨y7, y11, y12⟩ h
    exact zwi h
