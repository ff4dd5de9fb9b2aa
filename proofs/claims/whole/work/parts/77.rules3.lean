/-! READING RULES: the class -/
def CTok (b : Nat → Int32) (n p : Nat) (e k nm pl : Int32) : Prop := e = nI (tE b n p) ∧ k = nI (tK b n p) ∧ pl = nI p ∧ (tK b n p = 2 → nm = nvI b p (tE b n p - p))
theorem c_adv {b : Nat → Int32} {n p : Nat} {e k0 nm0 pl0 : Int32} (hn : n ≤ 700) (hp : p ≤ n) (h : e = nI (tE b n p)) : zwp (f_X9_advance b e k0 (nI n) nm0 pl0) (fun r => CTok b n (nxP b n p) r.1 r.2.1 r.2.2.1 r.2.2.2) := by
  rw [h]
  refine zwp_mono (c_advance hn (tE_le hp).2.1) ?_
  rintro _ rfl
  refine ⟨rfl, rfl, rfl, fun q => ?_⟩
  show (if tK b n (tP b n (tE b n p)) = 2 then _ else _) = _
  have q' : tK b n (tP b n (tE b n p)) = 2 := q
  rw [if_pos q']; rfl
theorem c_sign {b : Nat → Int32} {n p : Nat} {c : Int32} (hn : n ≤ 700) : f_X9_isSign c b (nI (tK b n p)) (nI p) = some (b2 (sgI b n p c)) := by
  have hk := tK_le (b := b) (n := n) (p := p)
  unfold f_X9_isSign sgI
  by_cases h : tK b n p = 3
  · have hp := tK_pos (b := b) (n := n) (p := p) (by omega)
    rw [if_pos (by rw [h]; rfl), zbnd_nI (by omega) (by decide), nI_clamp (by omega), decide_eq_true h, Bool.true_and]
    by_cases q : b p = c
    · rw [if_pos q, beq_iff_eq.mpr q]; rfl
    · rw [if_neg q, beq_false_of_ne q]; rfl
  · rw [if_neg (fun e => h (by rw [show (3 : Int32) = nI 3 from rfl, nI_eq (by omega) (by decide)] at e; exact e)), decide_eq_false h]; rfl
def nvN (b : Nat → Int32) (n p : Nat) : Nat := (nvI b p (tE b n p - p)).toInt.toNat
def nfO (b : Nat → Int32) (n p lo hi : Nat) : Nat := if tK b n p = 2 then (if tE b n p - p ≤ 4 then (if lo ≤ nvN b n p ∧ nvN b n p ≤ hi then 0 else 2) else 2) else 1
theorem nvN_ok {b : Nat → Int32} {n p : Nat} (hp : p ≤ n) (h : tK b n p = 2) (h4 : tE b n p - p ≤ 4) : nvI b p (tE b n p - p) = nI (nvN b n p) ∧ nvN b n p ≤ 9999 := by
  obtain ⟨v, v1, v2⟩ := tok_num hp h h4
  unfold nvN
  rw [v2, nI_toInt (by omega), show ((v : Nat) : Int).toNat = v from rfl]
  exact ⟨rfl, v1⟩
theorem c_numF {b : Nat → Int32} {n p lo hi : Nat} {nm : Int32} (hn : n ≤ 700) (hp : p ≤ n) (hlo : lo < 2 ^ 31) (hhi : hi < 2 ^ 31) (hm : tK b n p = 2 → nm = nvI b p (tE b n p - p)) : f_X9_numberFault (nI lo) (nI hi) (nI (tE b n p)) (nI (tK b n p)) nm (nI p) = some (nI (nfO b n p lo hi)) := by
  have hk := tK_le (b := b) (n := n) (p := p)
  obtain ⟨e1, e2, _⟩ := tE_le (b := b) hp
  unfold f_X9_numberFault nfO
  by_cases h : tK b n p = 2
  · rw [if_pos (by rw [h]; rfl), if_pos h, pk_sub e1, hm h]
    by_cases h4 : tE b n p - p ≤ 4
    · rw [if_pos (by rw [show (4 : Int32) = nI 4 from rfl]; exact nI_le h4 (by decide)), if_pos h4]
      obtain ⟨v1, v2⟩ := nvN_ok hp h h4
      rw [v1]
      generalize nvN b n p = v at v2
      by_cases q1 : v < lo
      · rw [if_pos (nI_lt q1 hlo), if_neg (by omega)]; rfl
      · rw [if_neg (nI_nlt (by omega) (by omega))]
        by_cases q2 : v ≤ hi
        · rw [if_pos (nI_le q2 hhi), if_pos ⟨by omega, q2⟩]; rfl
        · rw [if_neg (nI_ge (by omega) (by omega)), if_neg (fun q => q2 q.2)]; rfl
    · rw [if_neg (by rw [show (4 : Int32) = nI 4 from rfl]; exact nI_ge (by omega) (by omega)), if_neg h4]; rfl
  · rw [if_neg (fun e => h (by rw [show (2 : Int32) = nI 2 from rfl, nI_eq (by omega) (by decide)] at e; exact e)), if_neg h]; rfl
theorem nfO_9 {b : Nat → Int32} {n p : Nat} (hp : p ≤ n) : nfO b n p 0 9999 = if tK b n p = 2 then (if tE b n p - p ≤ 4 then 0 else 2) else 1 := by
  unfold nfO
  by_cases h : tK b n p = 2
  · rw [if_pos h, if_pos h]
    by_cases h4 : tE b n p - p ≤ 4
    · rw [if_pos h4, if_pos h4, if_pos ⟨Nat.zero_le _, (nvN_ok hp h h4).2⟩]
    · rw [if_neg h4, if_neg h4]
  · rw [if_neg h, if_neg h]
theorem c_cadd {x : Int32} {cd : Nat → Int32} {sz : Nat} (h : sz < 700) : f_X5_add x cd (nI sz) = some (upd cd sz x, nI (sz + 1)) := by
  unfold f_X5_add
  rw [if_neg (by rw [show (700 : Int32) = nI 700 from rfl]; exact nI_ge h (by decide)), zbnd_nI h (by decide), nI_clamp (by omega), nI_1]
theorem c_push {x : Int32} {wt : Nat → Int32} {w : Nat} (h : w < 128) : f_X6_push x wt (nI w) = some (upd wt w x, nI (w + 1)) := by
  unfold f_X6_push
  rw [if_neg (by rw [show (128 : Int32) = nI 128 from rfl]; exact nI_ge h (by decide)), zbnd_nI h (by decide), nI_clamp (by omega), nI_1]
theorem c_begin {bn : Bool} {x y z : Int32} : f_X6_beginPart (b2 bn) x y z = some (b2 bn, 0, 1) := by
  unfold f_X6_beginPart
  rw [b2_bol]
def rkI (x : Int32) : Int32 := if x = -19 then 6 else if x = -18 then 6 else if x = -17 then 5 else if x = -16 then 5 else if x = -15 then 4 else if x = -14 then 4 else if x = -13 then 3 else if x = -12 then 2 else if x = -11 then 1 else -1
theorem c_rankOf {x : Int32} : f_X6_rankOf x = some (rkI x) := by
  unfold f_X6_rankOf rkI
  repeat' split
  all_goals rfl
theorem rkI_op {x : Int32} (h : isOp x) : rkI x = nI (rkN x) := by
  rcases h with q | q | q | q | q | q | q | q | q <;> rw [q] <;> decide
theorem rk_cmp {x : Int32} (h : isW x) : ∀ L, L < 8 → (rkI x < nI L ↔ rkN x < max L 1) := by
  rcases h with (q | q | q | q | q | q | q | q | q) | q <;> rw [q] <;> decide
theorem c_release {wt cd : Nat → Int32} {w sz L : Nat} (hw : w ≤ 128) (hs : sz + w ≤ 700) (hL : L < 8) (hW : ∀ x, x ∈ stL wt w → isW x) : zwp (f_X6_release (nI L) cd (nI sz) wt (nI w)) (fun r => ∃ w2 s2, r.2.1 = nI s2 ∧ r.2.2 = nI w2 ∧ stL r.1 s2 = (rel (max L 1) (stL wt w) (stL cd sz)).2 ∧ stL wt w2 = (rel (max L 1) (stL wt w) (stL cd sz)).1) := by
  unfold f_X6_release
  refine zl_bind (P := fun i a => ∃ cd' w', a = (cd', nI (sz + i), nI w') ∧ w' + i = w ∧ rel (max L 1) (stL wt w) (stL cd sz) = rel (max L 1) (stL wt w') (stL cd' (sz + i))) (Post := fun r => ∃ w2 s2, r.2.1 = nI s2 ∧ r.2.2 = nI w2 ∧ stL r.1 s2 = (rel (max L 1) (stL wt w) (stL cd sz)).2 ∧ stL wt w2 = (rel (max L 1) (stL wt w) (stL cd sz)).1) w (by omega) ⟨cd, w, rfl, rfl, rfl⟩ ?_ ?_ ?_
  · rintro i hi _ ⟨cd', w', rfl, h1, h2⟩
    obtain ⟨v, rfl⟩ : ∃ v, w' = v + 1 := ⟨w' - 1, by omega⟩
    have hx : isW (wt v) := hW _ (stL_mem (by omega))
    refine zi_f (nI_nle (by omega) (by omega)) ?_
    dsimp only
    rw [nI_s1, zbnd_nI (by omega) (by decide), nI_clamp (show v < 2 ^ 31 by omega)]
    refine zi_beq c_rankOf ?_
    refine zi_c (fun q => zwi ?_) (fun q => ?_)
    · have h3 : rel (max L 1) (stL wt (v + 1)) (stL cd' (sz + i)) = (stL wt (v + 1), stL cd' (sz + i)) := rel_t ((rk_cmp hx L hL).mp q)
      rw [h2, h3]
      exact ⟨v + 1, sz + i, rfl, rfl, rfl, rfl⟩
    · rw [zbnd_nI (by omega) (by decide)]
      refine zi_beq (c_cadd (by omega)) (zwi ?_)
      refine ⟨_, v, rfl, by omega, ?_⟩
      rw [h2]
      have h3 : rel (max L 1) (stL wt (v + 1)) (stL cd' (sz + i)) = rel (max L 1) (stL wt v) (wt v :: stL cd' (sz + i)) := rel_f (fun e => q ((rk_cmp hx L hL).mpr e))
      rw [h3]
      congr 1
      exact stL_upd.symm
  · rintro _ ⟨cd', w', rfl, h1, h2⟩
    have : w' = 0 := by omega
    subst this
    refine zi_t (by decide) (zwi ?_)
    rw [h2]
    exact ⟨0, sz + w, rfl, rfl, rfl, rfl⟩
  · rintro ⟨y4, y5, y6⟩ h; exact zwi h
theorem c_valueOf {b : Nat → Int32} {n p : Nat} {oh : Bool} (hn : n ≤ 700) (hp : p ≤ n) : zwp (f_X6_valueOf (b2 oh) b (nI (tE b n p)) (nI (tK b n p)) (nI p)) (fun r => r = vlO b n p oh) := by
  unfold f_X6_valueOf vlO
  refine zi_bind (zwp_mono (c_w9 hn hp) ?_)
  intro r e
  subst e
  cases h9 : tw b n p 1 with
  | true => exact zi_f (by decide) (zwi rfl)
  | false =>
  refine zi_t rfl ?_
  refine zi_bind (zwp_mono (c_w6 hn hp) ?_)
  intro r e
  subst e
  cases h6 : tw b n p 2 with
  | true => exact zi_f (by decide) (zwi rfl)
  | false =>
  refine zi_t rfl ?_
  refine zi_bind (zwp_mono (c_w10 hn hp) ?_)
  intro r e
  subst e
  cases h10 : tw b n p 3 with
  | true => exact zi_f (by decide) (zwi rfl)
  | false =>
  refine zi_t rfl ?_
  refine zi_bind (zwp_mono (c_w11 hn hp) ?_)
  intro r e
  subst e
  cases h11 : tw b n p 4 with
  | true => exact zi_f (by decide) (zwi rfl)
  | false =>
  refine zi_t rfl ?_
  cases oh with
  | false =>
    refine zi_t rfl ?_
    refine zi_bind (zwp_mono (c_w12 hn hp) ?_)
    intro r e
    subst e
    cases h13 : tw b n p 0 with
    | true => exact zi_f (by decide) (zwi rfl)
    | false => exact zi_t rfl (zi_t rfl (zwi rfl))
  | true =>
    refine zi_f (by decide) (zi_f (by decide) ?_)
    refine zi_bind (zwp_mono (c_w13 hn hp) ?_)
    intro r e
    subst e
    cases h14 : tw b n p 5 with
    | true => exact zi_f (by decide) (zwi rfl)
    | false => exact zi_t rfl (zwi rfl)
theorem c_operatorOf {b : Nat → Int32} {n p : Nat} (hn : n ≤ 700) (hp : p ≤ n) : zwp (f_X6_operatorOf b (nI (tE b n p)) (nI (tK b n p)) (nI p)) (fun r => r = opO b n p) := by
  have hk := tK_le (b := b) (n := n) (p := p)
  unfold f_X6_operatorOf opO
  refine zi_bind (zwp_mono (c_w15 hn hp) ?_)
  intro r e
  subst e
  cases h15 : tw b n p 14 with
  | true => exact zi_f (by decide) (zwi rfl)
  | false =>
  refine zi_t rfl ?_
  refine zi_bind (zwp_mono (c_w16 hn hp) ?_)
  intro r e
  subst e
  cases h16 : tw b n p 13 with
  | true => exact zi_f (by decide) (zwi rfl)
  | false =>
  refine zi_t rfl ?_
  rw [if_neg (show ¬ false = true by decide), if_neg (show ¬ false = true by decide)]
  unfold f_X9_sign
  by_cases h : tK b n p = 3
  · have hpn := tK_pos (b := b) (n := n) (p := p) (by omega)
    refine zi_beq (a := b p) ?_ ?_
    · rw [if_pos (by rw [h]; rfl), zbnd_nI (by omega) (by decide), nI_clamp (by omega)]
    · rw [if_pos h]
      refine zi_c (fun q => zwi (by rw [if_pos q])) (fun q => ?_)
      rw [if_neg q]
      refine zi_c (fun q => zwi (by rw [if_pos q])) (fun q => ?_)
      rw [if_neg q]
      refine zi_c (fun q => zwi (by rw [if_pos q])) (fun q => ?_)
      rw [if_neg q]
      refine zi_c (fun q => zwi (by rw [if_pos q])) (fun q => ?_)
      rw [if_neg q]
      refine zi_c (fun q => zwi (by rw [if_pos q])) (fun q => ?_)
      rw [if_neg q]
      refine zi_c (fun q => zwi (by rw [if_pos q])) (fun q => ?_)
      rw [if_neg q]
      exact zwi rfl
  · refine zi_beq (a := -1) ?_ ?_
    · rw [if_neg (fun e => h (by rw [show (3 : Int32) = nI 3 from rfl, nI_eq (by omega) (by decide)] at e; exact e))]
    · rw [if_neg h]
      exact zi_f (by decide) (zi_f (by decide) (zi_f (by decide) (zi_f (by decide) (zi_f (by decide) (zi_f (by decide) (zwi rfl))))))
/-- the class's arrays hold what waits and what is out -/
def CA (s : RS) (cd : Nat → Int32) (sz : Int32) (wt : Nat → Int32) (w : Int32) : Prop := sz = nI s.2.2.2.2.2.1.length ∧ stL cd s.2.2.2.2.2.1.length = s.2.2.2.2.2.1 ∧ w = nI s.2.2.2.2.1.length ∧ stL wt s.2.2.2.2.1.length = s.2.2.2.2.1
def CO (s : RS) (r : Int32 × Int32 × Int32 × Int32 × Int32 × (Nat → Int32) × Int32 × (Nat → Int32) × Int32) : Prop := r.1 = 0 ∧ r.2.1 = b2 s.2.1 ∧ r.2.2.1 = nI s.2.2.2.1 ∧ r.2.2.2.1 = nI s.2.2.1 ∧ r.2.2.2.2.1 = b2 s.1 ∧ CA s r.2.2.2.2.2.1 r.2.2.2.2.2.2.1 r.2.2.2.2.2.2.2.1 r.2.2.2.2.2.2.2.2
theorem AI.len {n : Nat} {s : RS} (h : AI n s) : s.2.2.2.2.1.length ≤ 84 ∧ (s.2.2.2.1 < 6 → s.2.2.2.2.1.length ≤ 71) := by
  obtain ⟨r, j, c1, c2, c3, c4, c5, c6, c7, c8, c9⟩ := h
  obtain ⟨l1, l2, l3, l4, l5, l6⟩ := chk_len c1
  have : lnR r j ≤ 11 := by
    unfold lnR
    split
    · omega
    · split <;> omega
  refine ⟨by omega, fun q => by omega⟩
theorem c_readPart {b : Nat → Int32} {n nots dp p : Nat} {oh bn : Bool} {st out : List Int32} {cd wt : Nat → Int32} {nm : Int32} (hn : n ≤ 700) (hI : AI n (true, bn, nots, dp, st, out, p)) (hpn : p < n ∨ tK b n p = 0) (hc : stL cd out.length = out) (hw : stL wt st.length = st) (hm : tK b n p = 2 → nm = nvI b p (tE b n p - p)) : zwp (f_X6_readPart (b2 oh) (b2 bn) (nI dp) (nI nots) (b2 true) cd (nI out.length) b (nI (tE b n p)) (nI (tK b n p)) nm (nI p) wt (nI st.length)) (fun r => Sum.elim (fun s' => CO s' r) (fun k => r.1 = nI k) (aPart b n oh (true, bn, nots, dp, st, out, p))) := by
  have hlen := hI.len
  dsimp only at hlen
  obtain ⟨r, j, c1, c2, c3, c4, c5, _⟩ := hI
  dsimp only at c1 c2 c3 c4 c5
  have hp : p ≤ n := c4
  have hk := tK_le (b := b) (n := n) (p := p)
  have ho : 0 < n - p → out.length < 700 := fun _ => by omega
  have k2 : nI (tK b n p) = 2 ↔ tK b n p = 2 := nI_eq (b := 2) (by omega) (by decide)
  have k1 : nI (tK b n p) = 1 ↔ tK b n p = 1 := nI_eq (b := 1) (by omega) (by decide)
  unfold f_X6_readPart aPart
  refine zi_beq (c_sign hn) ?_
  dsimp only
  cases h40 : sgI b n p 40 with
  | true =>
    refine zi_f (by decide) ?_
    rw [if_pos rfl]
    by_cases h6 : dp < 6
    · refine zi_t (nI_lt (b := 6) h6 (by decide)) ?_
      rw [if_pos h6]
      refine zi_f (by decide) ?_
      refine zi_beq (c_push (by omega)) ?_
      refine zi_beq (c_begin (bn := true)) (zwi ?_)
      exact ⟨rfl, rfl, by show nI dp + 1 = _; rw [nI_1], rfl, rfl, rfl, hc, rfl, by show stL (upd wt st.length (-20)) (st.length + 1) = -20 :: st; rw [stL_upd, hw]⟩
    · refine zi_f (nI_nlt (b := 6) (by omega) (by omega)) ?_
      rw [if_neg h6]
      exact zwi rfl
  | false =>
    refine zi_t rfl ?_
    rw [if_neg (show ¬ false = true by decide)]
    by_cases h2 : tK b n p = 2
    · refine zi_t (k2.mpr h2) ?_
      rw [if_pos h2]
      by_cases h6 : dp < 6
      · refine zi_t (nI_lt (b := 6) h6 (by decide)) ?_
        rw [if_pos h6]
        refine zi_t rfl (zi_t (k2.mpr h2) ?_)
        unfold f_X6_readNumber
        refine zi_bind (zi_beq (c_numF (lo := 0) (hi := 9999) hn hp (by decide) (by decide) hm) ?_)
        rw [nfO_9 hp, if_pos h2]
        by_cases h4 : tE b n p - p ≤ 4
        · rw [if_pos h4, if_pos h4]
          refine zi_t rfl ?_
          have hpn2 := tK_pos (b := b) (n := n) (p := p) (by omega)
          refine zi_beq (c_cadd (by omega)) (zwi (zwi ?_))
          rw [hm h2]
          exact ⟨rfl, rfl, rfl, rfl, rfl, rfl, by show stL (upd cd out.length _) (out.length + 1) = _ :: out; rw [stL_upd, hc], rfl, hw⟩
        · rw [if_neg h4, if_neg h4]
          exact zi_f (by decide) (zwi (zwi rfl))
      · refine zi_f (nI_nlt (b := 6) (by omega) (by omega)) ?_
        rw [if_neg h6]
        exact zwi rfl
    · refine zi_f (fun e => h2 (k2.mp e)) ?_
      rw [if_neg h2]
      by_cases h1 : tK b n p = 1
      · refine zi_t (k1.mpr h1) ?_
        rw [if_pos h1]
        by_cases h6 : dp < 6
        · refine zi_t (nI_lt (b := 6) h6 (by decide)) ?_
          rw [if_pos h6]
          refine zi_t rfl (zi_f (fun e => h2 (k2.mp e)) ?_)
          have hpn2 := tK_pos (b := b) (n := n) (p := p) (by omega)
          refine zi_bind (zwp_mono (c_valueOf hn hp) ?_)
          rintro _ rfl
          have hval : zwp (if vlO b n p oh = (-1 : Int32) then some ((3 : Int32), nI nots, b2 true, cd, nI out.length, wt, nI st.length) else Option.bind (f_X5_add ((-1 : Int32) - vlO b n p oh) cd (nI out.length)) (fun q => match q with | (o2, o3) => some ((0 : Int32), nI nots, (0 : Int32), o2, o3, wt, nI st.length))) (fun r => zwp (some (r.1, b2 bn, nI dp, r.2.1, r.2.2.1, r.2.2.2.1, r.2.2.2.2.1, r.2.2.2.2.2.1, r.2.2.2.2.2.2)) (fun r => Sum.elim (fun s' => CO s' r) (fun k => r.1 = nI k) (if vlO b n p oh = -1 then .inr 3 else .inl (false, bn, nots, dp, st, ((-1 : Int32) - vlO b n p oh) :: out, nxP b n p)))) := by
            by_cases hv : vlO b n p oh = -1
            · refine zi_t hv (zwi (zwi ?_))
              rw [if_pos hv]; rfl
            · refine zi_f hv ?_
              refine zi_beq (c_cadd (by omega)) (zwi (zwi ?_))
              rw [if_neg hv]
              exact ⟨rfl, rfl, rfl, rfl, rfl, rfl, by show stL (upd cd out.length _) (out.length + 1) = _ :: out; rw [stL_upd, hc], rfl, hw⟩
          unfold f_X6_readWord
          cases bn with
          | false =>
            refine zi_bind (zi_t rfl ?_)
            rw [Bool.false_and, if_neg (show ¬ false = true by decide)]
            exact hval
          | true =>
            refine zi_bind (zi_f (by decide) ?_)
            refine zi_bind (zwp_mono (c_w14 hn hp) ?_)
            rintro _ rfl
            rw [Bool.true_and]
            cases h9 : tw b n p 15 with
            | false =>
              refine zi_t rfl ?_
              rw [if_neg (show ¬ false = true by decide)]
              exact hval
            | true =>
              refine zi_f (by decide) ?_
              rw [if_pos rfl]
              by_cases hno : nots < 6
              · refine zi_t (nI_lt (b := 6) hno (by decide)) ?_
                rw [if_pos hno]
                refine zi_beq (c_push (by omega)) (zwi (zwi ?_))
                exact ⟨rfl, rfl, rfl, by show nI nots + 1 = _; rw [nI_1], rfl, rfl, hc, rfl, by show stL (upd wt st.length (-13)) (st.length + 1) = -13 :: st; rw [stL_upd, hw]⟩
              · refine zi_f (nI_nlt (b := 6) (by omega) (by omega)) ?_
                rw [if_neg hno]
                exact zwi (zwi rfl)
        · refine zi_f (nI_nlt (b := 6) (by omega) (by omega)) ?_
          rw [if_neg h6]
          exact zwi rfl
      · refine zi_f (fun e => h1 (k1.mp e)) ?_
        rw [if_neg h1]
        exact zwi rfl
