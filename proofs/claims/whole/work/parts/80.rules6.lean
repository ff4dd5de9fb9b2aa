/-! READING RULES: the reference's operands -/
theorem aSt_due {b : Nat → Int32} {n : Nat} {oh : Bool} {f : Nat} {s s' : RS} (hd : s.1 = true) (h : aPart b n oh s = .inl s') : aGo b n oh (f + 1) s = aGo b n oh f s' := by
  refine aGo_l (aSt_l (by rw [hd]; rfl) ?_)
  unfold aNx
  rw [if_pos hd]; exact h
theorem aSt_dueR {b : Nat → Int32} {n : Nat} {oh : Bool} {f k : Nat} {s : RS} (hd : s.1 = true) (h : aPart b n oh s = .inr k) : aGo b n oh (f + 1) s = (k, s.2.2.2.2.2.2, []) ∧ 1 ≤ k ∧ k ≤ 3 := by
  have hx : aNx b n oh s = .inr k := by unfold aNx; rw [if_pos hd]; exact h
  exact ⟨aGo_r (aSt_r (by rw [hd]; rfl) hx), aNx_k hx⟩
theorem aPart_ok {b : Nat → Int32} {n : Nat} {oh : Bool} {s s' : RS} (hI : AI n s) (hd : s.1 = true) (h : aPart b n oh s = .inl s') : AI n s' ∧ s.2.2.2.2.2.2 < s'.2.2.2.2.2.2 := aNx_ok hI (by unfold aNx; rw [if_pos hd]; exact h)
theorem aPart_not {b : Nat → Int32} {n nots dp p : Nat} {oh bn : Bool} {st out : List Int32} (hd : dp ≤ 5) (h : (bn && tw b n p 15) = true) : aPart b n oh (true, bn, nots, dp, st, out, p) = if nots < 6 then .inl (true, bn, nots + 1, dp, -13 :: st, out, nxP b n p) else .inr 2 := by
  have hk : tK b n p = 1 := by rw [Bool.and_eq_true] at h; exact tw_pos h.2
  unfold aPart
  dsimp only
  rw [show sgI b n p 40 = false by unfold sgI; rw [decide_eq_false (by omega)]; rfl, if_neg (show ¬ false = true by decide), if_neg (show ¬ tK b n p = 2 by omega), if_pos hk, if_pos (show dp < 6 by omega), if_pos h]
theorem aPart_open {b : Nat → Int32} {n nots dp p : Nat} {oh bn : Bool} {st out : List Int32} (hd : dp ≤ 5) (h : sgI b n p 40 = true) : aPart b n oh (true, bn, nots, dp, st, out, p) = .inl (true, true, 0, dp + 1, -20 :: st, out, nxP b n p) := by
  unfold aPart
  dsimp only
  rw [if_pos h, if_pos (show dp < 6 by omega)]
theorem aPart_deep {b : Nat → Int32} {n nots p : Nat} {oh bn : Bool} {st out : List Int32} : aPart b n oh (true, bn, nots, 6, st, out, p) = .inr (if tK b n p = 2 then 2 else if tK b n p = 1 then 2 else if sgI b n p 40 then 2 else 1) := by
  unfold aPart
  dsimp only
  by_cases h1 : sgI b n p 40 = true
  · have hk := (sg_pos h1).1
    rw [if_pos h1, if_neg (by omega), if_neg (by omega), if_neg (by omega), if_pos h1]
  · rw [if_neg h1]
    by_cases h2 : tK b n p = 2
    · rw [if_pos h2, if_neg (by omega), if_pos h2]
    · rw [if_neg h2, if_neg h2]
      by_cases h3 : tK b n p = 1
      · rw [if_pos h3, if_neg (by omega), if_pos h3]
      · rw [if_neg h3, if_neg h3, if_neg h1]
theorem lvF_not {st : List Int32} {d r j : Nat} (h : chk st = some (d, r, j)) : lvF (-13 :: st) = lvF st := by
  obtain ⟨f, t, e, _⟩ := lvF_c h
  have hl : lvF (-13 :: st) = match lvF st with
    | [] => []
    | h :: t => (h || (rkN (-13) == 4)) :: t := rfl
  rw [hl, e]
  show (f || _) :: t = f :: t
  rw [rk_13, show ((3 : Nat) == 4) = false from rfl, Bool.or_false]
def OpS (b : Nat → Int32) (n : Nat) (oh : Bool) (R : RR3) (out : List Int32) (t : Nat) (bn : Bool) (nots dp : Nat) (st : List Int32) (p f : Nat) (dpm wn : Int32) (ws ts : Nat → Int32) (l0 nx pl sg so va : Int32) (wd : Int64) : Prop := AI n (true, bn, nots, dp, st, out, p) ∧ n < p + f ∧ aGo b n oh f (true, bn, nots, dp, st, out, p) = R ∧ MS dp st dpm wn ws ts ∧ t + 2 * st.length + 1 ≤ 2 * p ∧ MTok b n p l0 nx pl sg so va wd
theorem Bad_of {b : Nat → Int32} {n : Nat} {oh : Bool} {R : RR3} {f k p w t : Nat} {s : RS} {fk fp wn : Int32} (hn : n ≤ 700) (hd : s.1 = true) (hp : s.2.2.2.2.2.2 = p) (hpn : p ≤ n) (hf : n < p + f) (hR : aGo b n oh f s = R) (h : aPart b n oh s = .inr k) (h1 : fk = nI k) (h2 : fp = nI p) (h3 : wn = nI w) (h4 : w ≤ 128) (h5 : t + 2 * w + 1 ≤ 2 * p) : Bad R fk fp wn (nI t) := by
  obtain ⟨g, rfl⟩ : ∃ g, f = g + 1 := ⟨f - 1, by omega⟩
  obtain ⟨e, k1, k3⟩ := aSt_dueR (f := g) hd h
  rw [e, hp] at hR
  subst hR
  exact ⟨h1, h2, k1, k3, w, t, h3, rfl, h4, by omega⟩
theorem m_nots {b tape rc0 : Nat → Int32} {n a0 : Nat} {oh : Bool} {R : RR3} (hn : n ≤ 700) (htp : ∀ k, k < n → tape k = b k) {t i0 dp p : Nat} {bn : Bool} {st out : List Int32} {f : Nat} {dpm l0 nx pl sg so va wn : Int32} {wd : Int64} {ws ts : Nat → Int32} {Q : Int32 × Int32 × Int32 × Int32 × Int32 × Int32 × Int32 × Int32 × Int32 × (Nat → Int32) × Int64 → Prop} (hO : OpS b n oh R out t bn 0 dp st p f dpm wn ws ts l0 nx pl sg so va wd) (hQ : ∀ a, ((∃ nots st p' f, a.1 = 0 ∧ a.2.1 = -1 ∧ p ≤ p' ∧ (bn && tw b n p' 15) = false ∧ OpS b n oh R out t bn nots dp st p' f dpm a.2.2.2.2.2.2.2.2.1 a.2.2.2.2.2.2.2.2.2.1 ts a.2.2.1 a.2.2.2.1 a.2.2.2.2.1 a.2.2.2.2.2.1 a.2.2.2.2.2.2.1 a.2.2.2.2.2.2.2.1 a.2.2.2.2.2.2.2.2.2.2) ∨ Bad R a.1 a.2.1 a.2.2.2.2.2.2.2.2.1 (nI t)) → Q a) : zwp (zitr (α := Int32 × Int32 × Int32 × Int32 × Int32 × Int32 × Int32 × Int32 × Int32 × Int32 × (Nat → Int32) × Int64) (β := Int32 × Int32 × Int32 × Int32 × Int32 × Int32 × Int32 × Int32 × Int32 × (Nat → Int32) × Int64) (fun (q : Int32 × Int32 × Int32 × Int32 × Int32 × Int32 × Int32 × Int32 × Int32 × Int32 × (Nat → Int32) × Int64) => match q with | (x45, x46, x47, x48, x49, x50, x51, x52, x53, x54, x55, x56) => Option.bind (f_X12_isGood x46) (fun r85 => (if r85 = (0 : Int32) then some (.inr (x46, x47, x48, x49, x50, x51, x52, x53, x54, x55, x56)) else (if b2 bn = (0 : Int32) then some (.inr (x46, x47, x48, x49, x50, x51, x52, x53, x54, x55, x56)) else Option.bind (f_X12_knownWord x48 x52 x56) (fun r86 => (if r86 = (15 : Int32) then Option.bind (α := Int32 × Int32) ((if x45 = (6 : Int32) then Option.bind (f_X12_wrong (2 : Int32) x46 x47 x50) (fun q => match q with | (o99, o100) => some (o99, o100)) else some (x46, x47))) (fun (q : Int32 × Int32) => match q with | (j87, j88) => Option.bind (f_X12_isGood j87) (fun r89 => (if r89 = (0 : Int32) then some (.inl ((x45 + (1 : Int32)), j87, j88, x48, x49, x50, x51, x52, x53, x54, x55, x56)) else Option.bind (f_X12_waitsFor (3 : Int32) x54 x55) (fun q => match q with | (o90, o91) => Option.bind (f_X12_goes x48 (nI n) x49 x50 x51 x52 tape x53 x56) (fun q => match q with | (o92, o93, o94, o95, o96, o97, o98) => some (.inl ((x45 + (1 : Int32)), j87, j88, o92, o93, o94, o95, o96, o97, o90, o91, o98))))))) else some (.inr (x46, x47, x48, x49, x50, x51, x52, x53, x54, x55, x56)))))))) zFU ((0 : Int32), 0, -1, l0, nx, pl, sg, so, va, wn, ws, wd)) Q := by
  refine zwp_mono (zl_inv (P := fun i a => (∃ st p' f, a.1 = nI i ∧ i ≤ 6 ∧ a.2.1 = 0 ∧ a.2.2.1 = -1 ∧ p ≤ p' ∧ OpS b n oh R out t bn i dp st p' f dpm a.2.2.2.2.2.2.2.2.2.1 a.2.2.2.2.2.2.2.2.2.2.1 ts a.2.2.2.1 a.2.2.2.2.1 a.2.2.2.2.2.1 a.2.2.2.2.2.2.1 a.2.2.2.2.2.2.2.1 a.2.2.2.2.2.2.2.2.1 a.2.2.2.2.2.2.2.2.2.2.2) ∨ Bad R a.2.1 a.2.2.1 a.2.2.2.2.2.2.2.2.2.1 (nI t)) (Post := Q) 7 (by decide) (.inl ⟨st, p, f, rfl, by decide, rfl, rfl, Nat.le_refl _, hO⟩) ?_ ?_) (fun a h => h)
  · rintro i hi ⟨x45, x46, x47, x48, x49, x50, x51, x52, x53, x54, x55, x56⟩ hP
    dsimp only at hP
    rcases hP with ⟨st, p', f, q1, q2, q3, q4, q5, hO⟩ | hB
    · subst q1 q3 q4
      refine zi_beq (a := 1) rfl (zi_f (by decide) ?_)
      cases hb : bn with
      | false =>
        subst hb
        exact zi_t rfl (zwi (hQ _ (.inl ⟨i, st, p', f, rfl, rfl, q5, rfl, hO⟩)))
      | true =>
        subst hb
        refine zi_f (by decide) ?_
        obtain ⟨o1, o2, o3, ⟨m1, m2, m3, m4, m5⟩, o5, ⟨t1, t2, t3, t4, t5, t6, t7⟩⟩ := hO
        have hp' : p' ≤ n := by obtain ⟨r, j, c1, c2, c3, c4, _⟩ := o1; exact c4
        refine zi_bind (zwp_mono (m_kw hn hp' t1 t5 t7) ?_)
        rintro _ rfl
        cases h15 : tw b n p' 15 with
        | false =>
          refine zi_f (fun e => ?_) (zwi (hQ _ (.inl ⟨i, st, p', f, rfl, rfl, q5, by rw [h15]; rfl, o1, o2, o3, ⟨m1, m2, m3, m4, m5⟩, o5, ⟨t1, t2, t3, t4, t5, t6, t7⟩⟩)))
          have := (kw_iff (k := 15) (by decide)).mp e
          rw [h15] at this; cases this
        | true =>
          refine zi_t ((kw_iff (k := 15) (by decide)).mpr h15) ?_
          have hpt := aPart_not (oh := oh) (nots := i) (bn := true) (st := st) (out := out) m2 (show (true && tw b n p' 15) = true by rw [h15]; rfl)
          have hlen := o1.len
          dsimp only at hlen
          by_cases h6 : i = 6
          · refine zi_bind (zi_t (by rw [h6]; rfl) (zi_beq m_wrong0 (zwi ?_)))
            refine zi_beq (a := 0) rfl (zi_t rfl (zwi (.inr ?_)))
            rw [if_neg (by omega)] at hpt
            exact Bad_of hn rfl rfl hp' o2 o3 hpt rfl t3 m3 (by omega) o5
          · refine zi_bind (zi_f (nI_ne (b := 6) (by omega) (by decide) h6) (zwi ?_))
            refine zi_beq (a := 1) rfl (zi_f (by decide) ?_)
            rw [if_pos (by omega)] at hpt
            have hok := aPart_ok o1 rfl hpt
            obtain ⟨g, rfl⟩ : ∃ g, f = g + 1 := ⟨f - 1, by omega⟩
            rw [aSt_due rfl hpt] at o3
            rw [m3]
            refine zi_beq (m_waits (by omega)) ?_
            refine zi_bind (zwp_mono (m_gs hn hp' htp t2) ?_)
            rintro ⟨o92, o93, o94, o95, o96, o97, o98⟩ hT2
            have hlt : p' < nxP b n p' := hok.2
            obtain ⟨r, j, c1, _⟩ := o1
            refine zwi (.inl ⟨-13 :: st, nxP b n p', g, by rw [nI_1], by omega, rfl, rfl, by omega, hok.1, by omega, o3, ⟨m1, m2, rfl, push_stL (x := -13) m4, by rw [lvF_not c1]; exact m5⟩, ?_, hT2⟩)
            rw [List.length_cons]
            omega
    · obtain ⟨b1, b2', b3, b4, b5⟩ := hB
      refine zi_beq (a := 0) ?_ (zi_t rfl (zwi (hQ _ (.inr ⟨b1, b2', b3, b4, b5⟩))))
      unfold f_X12_isGood
      rw [if_neg (fun e => by rw [b1] at e; have := (nI_z0 (n := R.1) (by omega)).mp e; omega)]
  · rintro ⟨x45, x46, x47, x48, x49, x50, x51, x52, x53, x54, x55, x56⟩ hP
    dsimp only at hP
    rcases hP with ⟨st, p', f, q1, q2, _⟩ | hB
    · omega
    · obtain ⟨b1, b2', b3, b4, b5⟩ := hB
      refine zi_beq (a := 0) ?_ (zi_t rfl (zwi (hQ _ (.inr ⟨b1, b2', b3, b4, b5⟩))))
      unfold f_X12_isGood
      rw [if_neg (fun e => by rw [b1] at e; have := (nI_z0 (n := R.1) (by omega)).mp e; omega)]
