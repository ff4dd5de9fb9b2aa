/-! TOWN: what goes ahead of the lines -/
noncomputable def gTown (a1 j19 j20 : Int32) (m_tape : Nat → Int32) : (Int32 × Int32 × Int32 × Int32 × Int32 × Int32 × Int32 × Int32 × Int32 × Int32 × (Nat → Int32) × Int32 × (Nat → Int32) × (Nat → Int32) × Int32 × (Nat → Int32) × (Nat → Int32) × Int32 × Int32 × (Nat → Int32) × Int32 × Int32 × (Nat → Int32) × Int32 × Int32 × Int32 × (Nat → Int32) × Int64) → Option ((Int32 × Int32 × Int32 × Int32 × Int32 × Int32 × Int32 × Int32 × Int32 × Int32 × (Nat → Int32) × Int32 × (Nat → Int32) × (Nat → Int32) × Int32 × (Nat → Int32) × (Nat → Int32) × Int32 × Int32 × (Nat → Int32) × Int32 × Int32 × (Nat → Int32) × Int32 × Int32 × Int32 × (Nat → Int32) × Int64) ⊕ (Int32 × Int32 × Int32 × Int32 × Int32 × Int32 × Int32 × Int32 × Int32 × Int32 × (Nat → Int32) × Int32 × (Nat → Int32) × (Nat → Int32) × Int32 × (Nat → Int32) × (Nat → Int32) × Int32 × Int32 × (Nat → Int32) × Int32 × Int32 × (Nat → Int32) × Int32 × Int32 × Int32 × (Nat → Int32) × Int64)) := (fun (q : Int32 × Int32 × Int32 × Int32 × Int32 × Int32 × Int32 × Int32 × Int32 × Int32 × (Nat → Int32) × Int32 × (Nat → Int32) × (Nat → Int32) × Int32 × (Nat → Int32) × (Nat → Int32) × Int32 × Int32 × (Nat → Int32) × Int32 × Int32 × (Nat → Int32) × Int32 × Int32 × Int32 × (Nat → Int32) × Int64) => match q with | (x27, x28, x29, x30, x31, x32, x33, x34, x35, x36, x37, x38, x39, x40, x41, x42, x43, x44, x45, x46, x47, x48, x49, x50, x51, x52, x53, x54) => Option.bind (f_X12_isGood x28) (fun r94 => (if r94 = (0 : Int32) then some (.inr (x27, x28, x29, x30, x31, x32, x33, x34, x35, x36, x37, x38, x39, x40, x41, x42, x43, x44, x45, x46, x47, x48, x49, x50, x51, x52, x53, x54)) else (if x48 = (0 : Int32) then some (.inr (x27, x28, x29, x30, x31, x32, x33, x34, x35, x36, x37, x38, x39, x40, x41, x42, x43, x44, x45, x46, x47, x48, x49, x50, x51, x52, x53, x54)) else Option.bind (f_X12_line x27 x28 x29 x30 x31 x32 a1 x33 x34 x35 x36 x37 x38 x39 x40 x41 j19 x42 x43 j20 x44 x45 x46 x47 x48 (m_tape) x49 x50 x51 x52 x53 x54) (fun q => match q with | (o95, o96, o97, o98, o99, o100, o101, o102, o103, o104, o105, o106, o107, o108, o109, o110, o111, o112, o113, o114, o115, o116, o117, o118, o119, o120, o121, o122) => some (.inl (o95, o96, o97, o98, o99, o100, o101, o102, o103, o104, o105, o106, o107, o108, o109, o110, o111, o112, o113, o114, o115, o116, o117, o118, o119, o120, o121, o122)))))))
theorem zl_twoU {α β α' β' : Type} {f : α → Option (α ⊕ β)} {g : α' → Option (α' ⊕ β')} (P : Nat → α → α' → Prop) (Q : β → β' → Prop) (n : Nat) {a : α} {a' : α'} (hn : n < 2147483648) (h0 : P 0 a a') (hs : ∀ k, k < n → ∀ a a', P k a a' → zwp (f a) (fun r => zwp (g a') (fun s => LK (P (k + 1)) Q r s))) (he : ∀ a a', P n a a' → zwp (f a) (fun r => zwp (g a') (fun s => LK (fun _ _ => False) Q r s))) : zwp (zitr f zFU a) (fun x => ∃ y, zitr g zFU a' = some y ∧ Q x y) :=
  zwp_mono (zl_two n zFU zFU P a a' (by rw [zFU_eq]; exact hn) (by rw [zFU_eq]; exact hn) h0 hs he) (fun x hx => by
    obtain ⟨y, ey, hy⟩ := zw_ex hx
    exact ⟨y, ey, hy⟩)
theorem m_zero70 {row : Nat → Int32} : zwp (zitr (α := Int32 × (Nat → Int32)) (β := (Nat → Int32)) (fun (q : Int32 × (Nat → Int32)) => match q with | (x4, x5) => (if (70 : Int32) ≤ x4 then some (.inr x5) else zbnd x4 70 (some (.inl ((x4 + (1 : Int32)), (upd x5 x4.toNatClampNeg (0 : Int32))))))) zFU ((0 : Int32), row)) (fun r => ∀ k, k < 70 → r k = 0) := by
  refine zl_inv (P := fun k a => ∃ r, a = (nI k, r) ∧ ∀ j, j < k → r j = 0) 70 (by decide) ⟨row, rfl, fun j hj => by omega⟩ ?_ ?_
  · rintro k hk _ ⟨r, rfl, h⟩
    refine zi_f (by rw [show (70 : Int32) = nI 70 from rfl]; exact nI_ge hk (by decide)) ?_
    rw [zbnd_nI (by omega) (by decide), nI_clamp (by omega), nI_1]
    refine zwi ⟨_, rfl, fun j hj => ?_⟩
    by_cases q : j = k
    · subst q; rw [pk_us]
    · rw [pk_un q]; exact h j (by omega)
  · rintro _ ⟨r, rfl, h⟩
    exact zi_t (show (70 : Int32) ≤ nI 70 by decide) (zwi h)
theorem m_rows70 {row rows : Nat → Int32} : zwp (zitr (α := Int32 × (Nat → Int32)) (β := (Nat → Int32)) (fun (q : Int32 × (Nat → Int32)) => match q with | (x90, x91) => (if (70 : Int32) ≤ x90 then some (.inr x91) else zbnd x90 70 (zbnd x90 140 (some (.inl ((x90 + (1 : Int32)), (upd x91 x90.toNatClampNeg (row x90.toNatClampNeg)))))))) zFU ((0 : Int32), rows)) (fun r => ∀ k, k < 70 → r k = row k) := by
  refine zl_inv (P := fun k a => ∃ r, a = (nI k, r) ∧ ∀ j, j < k → r j = row j) 70 (by decide) ⟨rows, rfl, fun j hj => by omega⟩ ?_ ?_
  · rintro k hk _ ⟨r, rfl, h⟩
    refine zi_f (by rw [show (70 : Int32) = nI 70 from rfl]; exact nI_ge hk (by decide)) ?_
    rw [zbnd_nI (by omega) (by decide), zbnd_nI (by omega) (by decide), nI_clamp (by omega), nI_1]
    refine zwi ⟨_, rfl, fun j hj => ?_⟩
    by_cases q : j = k
    · subst q; rw [pk_us]
    · rw [pk_un q]; exact h j (by omega)
  · rintro _ ⟨r, rfl, h⟩
    exact zi_t (show (70 : Int32) ≤ nI 70 by decide) (zwi h)
theorem m_copiesN {n : Nat} {a c : Nat → Int32} (hn : n < 2 ^ 31) : zwp (f_X12_copies n n a c) (fun r => ∀ k, k < n → r k = a k) := by
  unfold f_X12_copies
  refine zl_bind (P := fun k x => ∃ r, x = (nI k, r) ∧ ∀ j, j < k → r j = a j) (Post := fun r => ∀ k, k < n → r k = a k) n (by omega) ⟨c, rfl, fun j hj => by omega⟩ ?_ ?_ ?_
  · rintro k hk _ ⟨r, rfl, h⟩
    refine zi_f (by rw [show Int32.ofNat n = nI n from rfl]; exact nI_ge hk hn) ?_
    rw [zbnd_nI hk hn, zbnd_nI hk hn, nI_clamp (by omega), nI_1]
    refine zwi ⟨_, rfl, fun j hj => ?_⟩
    by_cases q : j = k
    · subst q; rw [pk_us]
    · rw [pk_un q]; exact h j (by omega)
  · rintro _ ⟨r, rfl, h⟩
    exact zi_t (by rw [show Int32.ofNat n = nI n from rfl]; exact nI_le (Nat.le_refl _) hn) (zwi h)
  · intro r h; exact zwi h
/-- the table's line: the reference and the class -/
def TB (b : Nat → Int32) (n : Nat) (T : Int32 × Int32 × Int32 × Int32 × Int32 × Int32 × Int32 × Int32 × Int32 × Int32 × Int64) (r : Int32 × Int32 × Int32 × Int32 × Int32 × Int32 × Int32) : Prop := (r.1 = 0 ∧ T.1 = 0 ∧ T.2.1 = -1 ∧ ∃ W H p, 2 ≤ W ∧ W ≤ 6 ∧ 2 ≤ H ∧ H ≤ 6 ∧ p ≤ n ∧ r.2.1 = nI H ∧ r.2.2.1 = nI W ∧ T.2.2.2.1 = nI H ∧ T.2.2.2.2.1 = nI W ∧ CTok b n p r.2.2.2.1 r.2.2.2.2.1 r.2.2.2.2.2.1 r.2.2.2.2.2.2 ∧ MTok b n p T.2.2.1 T.2.2.2.2.2.1 T.2.2.2.2.2.2.1 T.2.2.2.2.2.2.2.1 T.2.2.2.2.2.2.2.2.1 T.2.2.2.2.2.2.2.2.2.1 T.2.2.2.2.2.2.2.2.2.2) ∨ (∃ k q, 1 ≤ k ∧ k ≤ 5 ∧ r.1 = nI k ∧ r.2.2.2.2.2.2 = nI q ∧ T.1 = nI k ∧ T.2.1 = nI q)
theorem m_numberB {tape : Nat → Int32} {k : Nat} {lo hi fk fp l0 lg nx pl sg so va : Int32} {wd : Int64} (h1 : fk = nI k) (h2 : 1 ≤ k) (h3 : k ≤ 5) : f_X12_number lo hi fk fp l0 lg nx pl sg so tape va wd = some (0, fk, fp, l0, nx, pl, sg, so, va, wd) := by
  unfold f_X12_number f_X12_isGood
  rw [if_neg (fun e => by rw [h1] at e; have := (nI_z0 (n := k) (by omega)).mp e; omega)]
  rfl
theorem cm_table {b tape : Nat → Int32} {n p0 : Nat} {l0 nx mpl sg so va e k nm pl : Int32} {wd : Int64} (hn : n ≤ 700) (hp : p0 ≤ n) (htp : ∀ k, k < n → tape k = b k) (ht : CTok b n p0 e k nm pl) (hT : MTok b n p0 l0 nx mpl sg so va wd) : zwp (if kwI b n p0 = (6 : Int32) then Option.bind (f_X12_goes l0 (nI n) nx mpl sg so tape va wd) (fun q => match q with | (o123, o124, o125, o126, o127, o128, o129) => Option.bind (f_X12_number (2 : Int32) (6 : Int32) (0 : Int32) (-1 : Int32) o123 (nI n) o124 o125 o126 o127 tape o128 o129) (fun q => match q with | (r139, o130, o131, o132, o133, o134, o135, o136, o137, o138) => Option.bind (f_X12_number (2 : Int32) (6 : Int32) o130 o131 o132 (nI n) o133 o134 o135 o136 tape o137 o138) (fun q => match q with | (r149, o140, o141, o142, o143, o144, o145, o146, o147, o148) => Option.bind (f_X12_isSign (59 : Int32) o145 o146) (fun r150 => Option.bind (f_X12_need r150 o140 o141 o142 (nI n) o143 o144 o145 o146 tape o147 o148) (fun q => match q with | (o151, o152, o153, o154, o155, o156, o157, o158, o159) => some (o151, o152, o153, r149, r139, o154, o155, o156, o157, o158, o159)))))) else some ((0 : Int32), (-1 : Int32), l0, (4 : Int32), (5 : Int32), nx, mpl, sg, so, va, wd)) (fun T => zwp (if b2 (tw b n p0 6) = (0 : Int32) then some ((0 : Int32), (4 : Int32), (5 : Int32), e, k, nm, pl) else Option.bind (f_X4_readTable 4 5 b e k (nI n) nm pl) (fun q => match q with | (r118, o112, o113, o114, o115, o116, o117) => some (r118, o112, o113, o114, o115, o116, o117))) (fun r => TB b n T r)) := by
  cases hw : tw b n p0 6 with
  | false =>
    refine zi_f (fun e => by have := (kw_iff (k := 6) (by decide)).mp e; rw [hw] at this; cases this) (zwi ?_)
    refine zi_t rfl (zwi (.inl ⟨rfl, rfl, rfl, 5, 4, p0, by decide, by decide, by decide, by decide, hp, rfl, rfl, rfl, rfl, ht, hT⟩))
  | true =>
    have hpn := tK_pos (b := b) (n := n) (p := p0) (by rw [tw_pos hw]; decide)
    have hx := nx_ok (b := b) hpn
    refine zi_t ((kw_iff (k := 6) (by decide)).mpr hw) ?_
    refine zi_bind (zwp_mono (m_gs hn hp htp hT.2.1) ?_)
    rintro ⟨o123, o124, o125, o126, o127, o128, o129⟩ hT1
    dsimp only at hT1 ⊢
    generalize hp1 : nxP b n p0 = p1 at hT1 hx
    have hx1 := nx_le (b := b) hx.2
    refine zi_bind (zwp_mono (m_number (lo := 2) (hi := 6) hn hx.2 htp (by decide) (by decide) hT1) ?_)
    rintro ⟨r139, o130, o131, o132, o133, o134, o135, o136, o137, o138⟩ ⟨k1, k2⟩
    dsimp only at k1 k2 ⊢
    have hle1 := nfO_le (b := b) (n := n) (p := p1) (lo := 2) (hi := 6)
    have hC : ∀ (T : (Int32 × Int32 × Int32 × Int32 × Int32 × Int32 × Int32 × Int32 × Int32 × Int32 × Int64)) (Q : (Int32 × Int32 × Int32 × Int32 × Int32 × Int32 × Int32 × Int32 × Int32 × Int32 × Int64) → (Int32 × Int32 × Int32 × Int32 × Int32 × Int32 × Int32) → Prop), (∀ o1 o2 o3 o4, CTok b n p1 o1 o2 o3 o4 → zwp (Option.bind (f_X9_numberFault (2 : Int32) (6 : Int32) o1 o2 o3 o4) (fun r5 => (if r5 = (0 : Int32) then Option.bind (f_X9_advance b o1 o2 (nI n) o3 o4) (fun q => match q with | (o6, o7, o8, o9) => Option.bind (f_X9_numberFault (2 : Int32) (6 : Int32) o6 o7 o8 o9) (fun r10 => (if r10 = (0 : Int32) then Option.bind (f_X9_advance b o6 o7 (nI n) o8 o9) (fun q => match q with | (o11, o12, o13, o14) => Option.bind (f_X4_readStop b o11 o12 (nI n) o13 o14) (fun q => match q with | (r19, o15, o16, o17, o18) => some (r19, o8, o3, o15, o16, o17, o18))) else some (r10, 4, o3, o6, o7, o8, o9)))) else some (r5, 4, 5, o1, o2, o3, o4)))) (fun a => zwp (some a) (fun r => Q T r))) → zwp (if b2 true = (0 : Int32) then some ((0 : Int32), (4 : Int32), (5 : Int32), e, k, nm, pl) else Option.bind (f_X4_readTable 4 5 b e k (nI n) nm pl) (fun q => match q with | (r118, o112, o113, o114, o115, o116, o117) => some (r118, o112, o113, o114, o115, o116, o117))) (fun r => Q T r) := by
      intro T Q h
      refine zi_f (by decide) ?_
      unfold f_X4_readTable
      refine zi_bind (zi_bind (zwp_mono (c_adv hn hp ht.1) ?_))
      rintro ⟨o1, o2, o3, o4⟩ ht1
      rw [hp1] at ht1
      refine zwp_mono (h o1 o2 o3 o4 ht1) ?_
      rintro ⟨a1, a2, a3, a4, a5, a6, a7⟩ ha
      exact ha
    by_cases h1 : nfO b n p1 2 6 = 0
    · obtain ⟨z1, z2, z3, hT2⟩ := k1 h1
      subst z1 z2 z3
      obtain ⟨f1, f2, f3, f4⟩ := nfO_0 h1
      generalize hp2 : nxP b n p1 = p2 at hT2 hx1
      have hx2 := nx_le (b := b) hx1.2
      refine zi_bind (zwp_mono (m_number (lo := 2) (hi := 6) hn hx1.2 htp (by decide) (by decide) hT2) ?_)
      rintro ⟨r149, o140, o141, o142, o143, o144, o145, o146, o147, o148⟩ ⟨k3, k4⟩
      dsimp only at k3 k4 ⊢
      have hle2 := nfO_le (b := b) (n := n) (p := p2) (lo := 2) (hi := 6)
      have hD : ∀ (T : (Int32 × Int32 × Int32 × Int32 × Int32 × Int32 × Int32 × Int32 × Int32 × Int32 × Int64)) (Q : (Int32 × Int32 × Int32 × Int32 × Int32 × Int32 × Int32 × Int32 × Int32 × Int32 × Int64) → (Int32 × Int32 × Int32 × Int32 × Int32 × Int32 × Int32) → Prop), (∀ o3 o6 o7 o8 o9, o3 = nI (nvN b n p1) → CTok b n p2 o6 o7 o8 o9 → zwp (Option.bind (f_X9_numberFault (2 : Int32) (6 : Int32) o6 o7 o8 o9) (fun r10 => (if r10 = (0 : Int32) then Option.bind (f_X9_advance b o6 o7 (nI n) o8 o9) (fun q => match q with | (o11, o12, o13, o14) => Option.bind (f_X4_readStop b o11 o12 (nI n) o13 o14) (fun q => match q with | (r19, o15, o16, o17, o18) => some (r19, o8, o3, o15, o16, o17, o18))) else some (r10, 4, o3, o6, o7, o8, o9)))) (fun a => zwp (some a) (fun r => Q T r))) → zwp (if b2 true = (0 : Int32) then some ((0 : Int32), (4 : Int32), (5 : Int32), e, k, nm, pl) else Option.bind (f_X4_readTable 4 5 b e k (nI n) nm pl) (fun q => match q with | (r118, o112, o113, o114, o115, o116, o117) => some (r118, o112, o113, o114, o115, o116, o117))) (fun r => Q T r) := by
        intro T Q h
        refine hC T Q ?_
        rintro o1 o2 o3 o4 ⟨t1, t2, t3, t4⟩
        subst t1 t2 t3
        refine zi_beq (c_numF (lo := 2) (hi := 6) hn hx.2 (by decide) (by decide) t4) ?_
        rw [h1]
        refine zi_t rfl ?_
        refine zi_bind (zwp_mono (c_adv hn hx.2 rfl) ?_)
        rintro ⟨o6, o7, o8, o9⟩ ht2
        rw [hp2] at ht2
        exact h o3 o6 o7 o8 o9 (by rw [t4 f1, (nvN_ok hx.2 f1 f2).1]) ht2
      by_cases h2 : nfO b n p2 2 6 = 0
      · obtain ⟨z1, z2, z3, hT3⟩ := k3 h2
        subst z1 z2 z3
        obtain ⟨f5, f6, f7, f8⟩ := nfO_0 h2
        generalize hp3 : nxP b n p2 = p3 at hT3 hx2
        have hE : ∀ (T : (Int32 × Int32 × Int32 × Int32 × Int32 × Int32 × Int32 × Int32 × Int32 × Int32 × Int64)) (Q : (Int32 × Int32 × Int32 × Int32 × Int32 × Int32 × Int32 × Int32 × Int32 × Int32 × Int64) → (Int32 × Int32 × Int32 × Int32 × Int32 × Int32 × Int32) → Prop), (∀ r : Int32 × Int32 × Int32 × Int32 × Int32, ((sgI b n p3 59 = true → r.1 = 0 ∧ CTok b n (nxP b n p3) r.2.1 r.2.2.1 r.2.2.2.1 r.2.2.2.2) ∧ (sgI b n p3 59 = false → r.1 = nI 1 ∧ r.2.2.2.2 = nI p3)) → Q T (r.1, nI (nvN b n p2), nI (nvN b n p1), r.2.1, r.2.2.1, r.2.2.2.1, r.2.2.2.2)) → zwp (if b2 true = (0 : Int32) then some ((0 : Int32), (4 : Int32), (5 : Int32), e, k, nm, pl) else Option.bind (f_X4_readTable 4 5 b e k (nI n) nm pl) (fun q => match q with | (r118, o112, o113, o114, o115, o116, o117) => some (r118, o112, o113, o114, o115, o116, o117))) (fun r => Q T r) := by
          intro T Q h
          refine hD T Q ?_
          rintro o3 o6 o7 o8 o9 e3 ⟨t1, t2, t3, t4⟩
          subst t1 t2 t3 e3
          refine zi_beq (c_numF (lo := 2) (hi := 6) hn hx1.2 (by decide) (by decide) t4) ?_
          rw [h2]
          refine zi_t rfl ?_
          refine zi_bind (zwp_mono (c_adv hn hx1.2 rfl) ?_)
          rintro ⟨o11, o12, o13, o14⟩ ht3
          rw [hp3] at ht3
          refine zi_bind (zwp_mono (c_readStop hn hx2.2 ht3) ?_)
          rintro ⟨r19, o15, o16, o17, o18⟩ hr
          refine zwi (zwi ?_)
          rw [t4 f5, (nvN_ok hx1.2 f5 f6).1]
          exact h (r19, o15, o16, o17, o18) hr
        refine ml_good hn hx2.2 htp hT3 ?_ ?_
        · rintro h59 ⟨a1, a2, a3, a4, a5, a6, a7, a8, a9⟩ b1 b2' hT4
          refine zwi (hE _ (TB b n) (fun r hr => .inl ⟨(hr.1 h59).1, b1, b2', nvN b n p1, nvN b n p2, nxP b n p3, f3, f4, f7, f8, (nx_le hx2.2).2, rfl, rfl, rfl, rfl, (hr.1 h59).2, hT4⟩))
        · rintro h59 ⟨a1, a2, a3, a4, a5, a6, a7, a8, a9⟩ b1 b2'
          refine zwi (hE _ (TB b n) (fun r hr => .inr ⟨1, p3, by decide, by decide, (hr.2 h59).1, (hr.2 h59).2, b1, b2'⟩))
      · obtain ⟨z1, z2⟩ := k4 h2
        refine ml_bad (k := nfO b n p2 2 6) z1 (by omega) (by omega) (zwi (hD _ (TB b n) ?_))
        rintro o3 o6 o7 o8 o9 e3 ⟨t1, t2, t3, t4⟩
        subst t1 t2 t3
        refine zi_beq (c_numF (lo := 2) (hi := 6) hn hx1.2 (by decide) (by decide) t4) ?_
        exact zi_f (fun q => h2 ((nI_z0 (by omega)).mp q)) (zwi (zwi (.inr ⟨nfO b n p2 2 6, p2, by omega, by omega, rfl, rfl, z1, z2⟩)))
    · obtain ⟨z1, z2⟩ := k2 h1
      refine zi_beq (m_numberB z1 (by omega) (by omega)) ?_
      refine ml_bad (k := nfO b n p1 2 6) z1 (by omega) (by omega) (zwi (hC _ (TB b n) ?_))
      rintro o1 o2 o3 o4 ⟨t1, t2, t3, t4⟩
      subst t1 t2 t3
      refine zi_beq (c_numF (lo := 2) (hi := 6) hn hx.2 (by decide) (by decide) t4) ?_
      exact zi_f (fun q => h1 ((nI_z0 (by omega)).mp q)) (zwi (zwi (.inr ⟨nfO b n p1 2 6, p1, by omega, by omega, rfl, rfl, z1, z2⟩)))
