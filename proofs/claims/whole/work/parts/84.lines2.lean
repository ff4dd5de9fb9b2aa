/-! READING LINES: each kind -/
theorem m_begins {b tape : Nat → Int32} {n p : Nat} {much again : Bool} {l0 nx pl sg so va : Int32} {wd : Int64} (hn : n ≤ 700) (hp : p ≤ n) (htp : ∀ k, k < n → tape k = b k) (hT : MTok b n p l0 nx pl sg so va wd) : zwp (f_X12_begins (b2 much) (b2 again) 0 (-1) l0 (nI n) nx pl sg so tape va wd) (fun r => (much = true → r.1 = 0 ∧ r.2.1 = nI 2 ∧ r.2.2.1 = nI p) ∧ (much = false → again = true → r.1 = 0 ∧ r.2.1 = nI 5 ∧ r.2.2.1 = nI p) ∧ (much = false → again = false → r.1 = 1 ∧ r.2.1 = 0 ∧ r.2.2.1 = -1 ∧ MTok b n (nxP b n p) r.2.2.2.1 r.2.2.2.2.1 r.2.2.2.2.2.1 r.2.2.2.2.2.2.1 r.2.2.2.2.2.2.2.1 r.2.2.2.2.2.2.2.2.1 r.2.2.2.2.2.2.2.2.2)) := by
  have t3 := hT.2.2.1
  unfold f_X12_begins
  cases much with
  | true =>
    refine zi_bind (zi_f (by decide) (zi_beq m_wrong0 (zwi ?_)))
    cases again with
    | true =>
      refine zi_bind (zi_f (by decide) (zi_beq (a := (2, pl)) rfl (zwi ?_)))
      refine zi_beq (a := 0) rfl (zi_t rfl (zwi ⟨fun _ => ⟨rfl, rfl, t3⟩, fun q => (by cases q), fun q => (by cases q)⟩))
    | false =>
      refine zi_bind (zi_t rfl (zwi ?_))
      refine zi_beq (a := 0) rfl (zi_t rfl (zwi ⟨fun _ => ⟨rfl, rfl, t3⟩, fun q => (by cases q), fun q => (by cases q)⟩))
  | false =>
    refine zi_bind (zi_t rfl (zwi ?_))
    cases again with
    | true =>
      refine zi_bind (zi_f (by decide) (zi_beq m_wrong0 (zwi ?_)))
      refine zi_beq (a := 0) rfl (zi_t rfl (zwi ⟨fun q => (by cases q), fun _ _ => ⟨rfl, rfl, t3⟩, fun _ q => (by cases q)⟩))
    | false =>
      refine zi_bind (zi_t rfl (zwi ?_))
      refine zi_beq (a := 1) rfl (zi_f (by decide) ?_)
      refine zi_bind (zwp_mono (m_gs hn hp htp hT.2.1) ?_)
      rintro ⟨o6, o7, o8, o9, o10, o11, o12⟩ hT2
      exact zwi ⟨fun q => (by cases q), fun _ q => (by cases q), fun _ _ => ⟨rfl, rfl, rfl, hT2⟩⟩
def wlK (b : Nat → Int32) (n p WH wl F S : Nat) (start sc : Nat → Int32) : Nat := if cfO b n p WH wl = 0 then (if (anyB (fun f => start f == nI (nvN b n p)) F || anyB (fun s => sc s == nI (nvN b n p)) S) then 4 else 0) else cfO b n p WH wl
theorem wlK_le {b : Nat → Int32} {n p WH wl F S : Nat} {start sc : Nat → Int32} : wlK b n p WH wl F S start sc ≤ 4 := by
  have := cfO_le (b := b) (n := n) (p := p) (WH := WH) (wl := wl)
  unfold wlK
  repeat' split
  all_goals omega
theorem c_isStart {F : Nat} {start : Nat → Int32} {a : Int32} (hF : F ≤ 8) : zwp (f_X3_isStart a (nI F) start) (fun r => r = b2 (anyB (fun f => start f == a) F)) := by
  unfold f_X3_isStart
  refine zl_bs (P := fun i x => x = nI i ∧ anyB (fun f => start f == a) i = false) (Post := fun _ => anyB (fun f => start f == a) F = false) F (by omega) ⟨rfl, rfl⟩ ?_ ?_ ?_
  · rintro i hi _ ⟨rfl, h⟩
    refine zi_f (nI_ge hi (by omega)) ?_
    rw [zbnd_nI (by omega) (by decide), nI_clamp (show i < 2 ^ 31 by omega)]
    refine zi_c (fun q => zwi ?_) (fun q => zwi ⟨by rw [nI_1], by rw [anyB_s, h, beq_false_of_ne q]; rfl⟩)
    show (1 : Int32) = b2 _
    rw [show anyB (fun f => start f == a) F = true from anyB_iff.mpr ⟨i, hi, beq_iff_eq.mpr q⟩]; rfl
  · rintro _ ⟨rfl, h⟩
    exact zi_t (nI_le (Nat.le_refl _) (by omega)) (zwi h)
  · intro _ h; exact zwi (by rw [h]; rfl)
theorem c_seatsAt8 {S : Nat} {sc : Nat → Int32} {a : Int32} (hS : S ≤ 8) : f_X3_seatsAt a sc (nI S) = some (nI (bts (fun s => sc s == a) S)) := c_seatsAt hS
theorem c_readWall {b start sc : Nat → Int32} {n p W H wl F S : Nat} {e k nm pl : Int32} (hn : n ≤ 700) (hp : p < n) (hF : F ≤ 8) (hS : S ≤ 8) (hw : wl < 2 ^ 63) (hWH : W * H ≤ 36) (ht : CTok b n p e k nm pl) : zwp (f_X4_readWall (nI F) (nI H) sc (nI S) start (lN wl) (nI W) b e k (nI n) nm pl) (fun r => r.1 = nI (wlK b n (nxP b n p) (W * H) wl F S start sc) ∧ (wlK b n (nxP b n p) (W * H) wl F S start sc = 0 → r.2.1 = lN (wl ||| 2 ^ nvN b n (nxP b n p)) ∧ CTok b n (nxP b n (nxP b n p)) r.2.2.1 r.2.2.2.1 r.2.2.2.2.1 r.2.2.2.2.2) ∧ (¬ wlK b n (nxP b n p) (W * H) wl F S start sc = 0 → r.2.2.2.2.2 = nI (nxP b n p))) := by
  have hx := nx_ok (b := b) hp
  unfold f_X4_readWall
  refine zi_bind (zwp_mono (c_adv hn (Nat.le_of_lt hp) ht.1) ?_)
  rintro ⟨o1, o2, o3, o4⟩ ⟨t1, t2, t3, t4⟩
  dsimp only at t1 t2 t3 t4 ⊢
  subst t1 t2 t3
  refine zi_beq (c_cellFault hn hx.2 hw hWH t4) ?_
  unfold wlK
  by_cases h0 : cfO b n (nxP b n p) (W * H) wl = 0
  · rw [if_pos h0, h0]
    obtain ⟨f1, f2, f3, f4⟩ := cfO_0 h0
    refine zi_t rfl ?_
    rw [t4 f1, (nvN_ok hx.2 f1 f2).1]
    refine zi_bind (zwp_mono (c_isStart hF) ?_)
    rintro _ rfl
    cases hs : anyB (fun f => start f == nI (nvN b n (nxP b n p))) F with
    | true => exact zi_f (by decide) (zwi ⟨rfl, fun q => absurd (show (4 : Nat) = 0 from q) (by decide), fun _ => rfl⟩)
    | false =>
      refine zi_t rfl ?_
      refine zi_beq (c_seatsAt8 hS) ?_
      cases hs2 : anyB (fun s => sc s == nI (nvN b n (nxP b n p))) S with
      | true => exact zi_f (fun q => by rw [(nI_bts0 hS).mp q] at hs2; cases hs2) (zwi ⟨rfl, fun q => absurd (show (4 : Nat) = 0 from q) (by decide), fun _ => rfl⟩)
      | false =>
        refine zi_t ((nI_bts0 hS).mpr hs2) ?_
        refine zi_bind (zwp_mono (c_adv hn hx.2 rfl) ?_)
        rintro ⟨o8, o9, o10, o11⟩ ht2
        refine zwi ⟨rfl, fun _ => ⟨?_, ht2⟩, fun q => absurd rfl q⟩
        show lN wl ||| ((1 : Int64) <<< ((nI (nvN b n (nxP b n p))).toInt64 &&& 63)) = _
        rw [show (1 : Int64) = lN 1 from rfl, wb_shl 1 (by omega), Nat.one_mul, fb_orL]
  · rw [if_neg h0]
    have hle := cfO_le (b := b) (n := n) (p := nxP b n p) (WH := W * H) (wl := wl)
    exact zi_f (fun q => h0 ((nI_z0 (by omega)).mp q)) (zwi ⟨rfl, fun q => absurd q h0, fun _ => rfl⟩)
theorem m_loop4 {row st : Nat → Int32} {F off sz : Nat} {c pl fk fp : Int32} {α : Type} {kk : Int32 × Int32 → Option α} {Q : α → Prop} (B : Bool) (hF : F ≤ 8) (ho : off + F ≤ sz) (hsz : sz ≤ 70) (hr : ∀ f, f < F → row (off + f) = st f) (hk : (B = false ∧ fk = 0 ∧ fp = -1) ∨ (B = true ∧ fk = 4 ∧ fp = pl)) (h : ∀ y, ((B || anyB (fun f => st f == c) F) = false ∧ y = (0, -1)) ∨ ((B || anyB (fun f => st f == c) F) = true ∧ y = (4, pl)) → zwp (kk y) Q) (ix : Int32 → Int32) (hix : ∀ i, i < 8 → ix (nI i) = nI (off + i)) : zwp (Option.bind (α := Int32 × Int32) (zitr (α := Int32 × Int32 × Int32) (β := Int32 × Int32) (fun (q : Int32 × Int32 × Int32) => match q with | (x5, x6, x7) => (if nI F ≤ x5 then some (.inr (x6, x7)) else zbnd (ix x5) sz ((if (row (ix x5).toNatClampNeg) = c then Option.bind (f_X12_wrong (4 : Int32) x6 x7 pl) (fun q => match q with | (o27, o28) => some (.inl ((x5 + (1 : Int32)), o27, o28))) else some (.inl ((x5 + (1 : Int32)), x6, x7)))))) zFU ((0 : Int32), fk, fp)) kk) Q := by
  refine zl_bind (P := fun i a => a.1 = nI i ∧ (((B || anyB (fun f => st f == c) i) = false ∧ a.2 = (0, -1)) ∨ ((B || anyB (fun f => st f == c) i) = true ∧ a.2 = (4, pl)))) (Post := fun y => ((B || anyB (fun f => st f == c) F) = false ∧ y = (0, -1)) ∨ ((B || anyB (fun f => st f == c) F) = true ∧ y = (4, pl))) F (by omega) ⟨rfl, ?_⟩ ?_ ?_ h
  · rcases hk with ⟨k1, k2, k3⟩ | ⟨k1, k2, k3⟩
    · left; rw [k1, k2, k3]; exact ⟨rfl, rfl⟩
    · right; rw [k1, k2, k3]; exact ⟨rfl, rfl⟩
  · rintro i hi ⟨x5, x6, x7⟩ ⟨q1, q2⟩
    dsimp only at q1 q2
    subst q1
    refine zi_f (nI_ge hi (by omega)) ?_
    rw [hix i (by omega), zbnd_nI (by omega) (by omega), nI_clamp (show off + i < 2 ^ 31 by omega), hr i hi]
    rw [anyB_s, ← Bool.or_assoc]
    refine zi_c (fun q => ?_) (fun q => ?_)
    · rw [beq_iff_eq.mpr q, Bool.or_true]
      rcases q2 with ⟨q2, q3⟩ | ⟨q2, q3⟩
      · injection q3 with q3 q4
        subst q3 q4
        exact zi_beq m_wrong0 (zwi ⟨by rw [nI_1], .inr ⟨rfl, rfl⟩⟩)
      · injection q3 with q3 q4
        subst q3 q4
        exact zi_beq (a := (4, _)) rfl (zwi ⟨by rw [nI_1], .inr ⟨rfl, rfl⟩⟩)
    · rw [beq_false_of_ne q, Bool.or_false]
      exact zwi ⟨by rw [nI_1], q2⟩
  · rintro ⟨x5, x6, x7⟩ ⟨q1, q2⟩
    dsimp only at q1 q2
    subst q1
    exact zi_t (nI_le (Nat.le_refl _) (by omega)) (zwi q2)
theorem m_readsWall {b tape start sc row msa : Nat → Int32} {n p W H wl F S : Nat} {l0 nx pl sg so va : Int32} {wd : Int64} (hn : n ≤ 700) (hp : p ≤ n) (htp : ∀ k, k < n → tape k = b k) (hF : F ≤ 8) (hS : S ≤ 8) (hWH : W * H ≤ 36) (hr : ∀ c, c < 36 → row (33 + c) = b2 (wl.testBit c)) (hrs : ∀ f, f < F → row (1 + f) = start f) (hss : ∀ s, s < S → msa s = sc s) (hT : MTok b n p l0 nx pl sg so va wd) : zwp (f_X12_readsWall 0 (-1) l0 (nI n) (nI F) row msa (nI S) (nI H) (nI W) nx pl sg so tape va wd) (fun r => (wlK b n p (W * H) wl F S start sc = 0 → r.1 = 0 ∧ r.2.1 = -1 ∧ r.2.2.2.1 = upd row (33 + nvN b n p) 1 ∧ MTok b n (nxP b n p) r.2.2.1 r.2.2.2.2.1 r.2.2.2.2.2.1 r.2.2.2.2.2.2.1 r.2.2.2.2.2.2.2.1 r.2.2.2.2.2.2.2.2.1 r.2.2.2.2.2.2.2.2.2) ∧ (¬ wlK b n p (W * H) wl F S start sc = 0 → r.1 = nI (wlK b n p (W * H) wl F S start sc) ∧ r.2.1 = nI p)) := by
  have t3 := hT.2.2.1
  unfold f_X12_readsWall
  refine zi_bind (zwp_mono (m_cellHere hn hp hWH hr hT) ?_)
  rintro ⟨r3, o1, o2⟩ ⟨g1, g2⟩
  dsimp only at g1 g2 ⊢
  unfold wlK
  by_cases h0 : cfO b n p (W * H) wl = 0
  · rw [if_pos h0]
    obtain ⟨f1, f2, f3, f4⟩ := cfO_0 h0
    have g1' := g1 h0
    injection g1' with e1 e2
    injection e2 with e2 e3
    subst e1 e2 e3
    refine zi_beq (a := 1) rfl (zi_f (by decide) ?_)
    refine m_loop4 (st := start) (off := 1) (sz := 70) false hF (by omega) (by omega) hrs (.inl ⟨rfl, rfl, rfl⟩) ?_ (fun x => 1 + x) (fun i _ => by rw [show (1 : Int32) = nI 1 from rfl, nI_add])
    intro y hy
    rw [Bool.false_or] at hy
    obtain ⟨y9, y10⟩ := y
    dsimp only
    refine m_loop4 (st := sc) (off := 0) (sz := 8) (anyB (fun f => start f == nI (nvN b n p)) F) hS (by omega) (by omega) (fun s hs => by rw [Nat.zero_add]; exact hss s hs) ?_ ?_ (fun x => x) (fun i _ => by rw [Nat.zero_add])
    · rcases hy with ⟨y1, y2⟩ | ⟨y1, y2⟩
      · injection y2 with y2 y3
        exact .inl ⟨y1, y2, y3⟩
      · injection y2 with y2 y3
        exact .inr ⟨y1, y2, y3⟩
    · intro z hz
      obtain ⟨y15, y16⟩ := z
      rcases hz with ⟨z1, z2⟩ | ⟨z1, z2⟩
      · injection z2 with z2 z3
        subst z2 z3
        rw [z1]
        refine zi_beq (a := 1) rfl (zi_f (by decide) ?_)
        rw [show (33 : Int32) = nI 33 from rfl, nI_add, zbnd_nI (by omega) (by decide), nI_clamp (by omega)]
        refine zi_bind (zwp_mono (m_gs hn hp htp hT.2.1) ?_)
        rintro ⟨o18, o19, o20, o21, o22, o23, o24⟩ hT2
        exact zwi ⟨fun _ => ⟨rfl, rfl, rfl, hT2⟩, fun q => absurd rfl q⟩
      · injection z2 with z2 z3
        subst z2
        rw [z1]
        refine zi_beq (a := 0) rfl (zi_t rfl (zwi ⟨fun q => absurd (show (4 : Nat) = 0 from q) (by decide), fun _ => ⟨rfl, z3.trans t3⟩⟩))
  · rw [if_neg h0]
    obtain ⟨g3, g4⟩ := g2 h0
    have hle := cfO_le (b := b) (n := n) (p := p) (WH := W * H) (wl := wl)
    refine zi_beq (a := 0) ?_ (zi_t rfl (zwi ⟨fun q => absurd q h0, fun _ => ⟨g3, g4⟩⟩))
    unfold f_X12_isGood
    rw [if_neg (fun q => h0 (by rw [g3] at q; exact (nI_z0 (by omega)).mp q))]
theorem c_readSeat {b sc : Nat → Int32} {n p W H wl S : Nat} {e k nm pl : Int32} (hn : n ≤ 700) (hp : p < n) (hS : S ≤ 8) (hw : wl < 2 ^ 63) (hWH : W * H ≤ 36) (ht : CTok b n p e k nm pl) : zwp (f_X4_readSeat (nI H) sc (nI S) (lN wl) (nI W) b e k (nI n) nm pl) (fun r => (S = 8 → r.1 = nI 2 ∧ r.2.2.2.2.2.2 = nI p) ∧ (¬ S = 8 → r.1 = nI (cfO b n (nxP b n p) (W * H) wl) ∧ (cfO b n (nxP b n p) (W * H) wl = 0 → r.2.1 = upd sc S (nI (nvN b n (nxP b n p))) ∧ r.2.2.1 = nI (S + 1) ∧ CTok b n (nxP b n (nxP b n p)) r.2.2.2.1 r.2.2.2.2.1 r.2.2.2.2.2.1 r.2.2.2.2.2.2) ∧ (¬ cfO b n (nxP b n p) (W * H) wl = 0 → r.2.2.2.2.2.2 = nI (nxP b n p)))) := by
  have hx := nx_ok (b := b) hp
  unfold f_X4_readSeat
  by_cases h8 : S = 8
  · subst h8
    exact zi_f (by decide) (zwi ⟨fun _ => ⟨rfl, ht.2.2.1⟩, fun q => absurd rfl q⟩)
  · refine zi_t (nI_lt (b := 8) (by omega) (by decide)) ?_
    refine zi_bind (zwp_mono (c_adv hn (Nat.le_of_lt hp) ht.1) ?_)
    rintro ⟨o1, o2, o3, o4⟩ ⟨t1, t2, t3, t4⟩
    dsimp only at t1 t2 t3 t4 ⊢
    subst t1 t2 t3
    refine zi_beq (c_cellFault hn hx.2 hw hWH t4) ?_
    by_cases h0 : cfO b n (nxP b n p) (W * H) wl = 0
    · rw [h0]
      obtain ⟨f1, f2, f3, f4⟩ := cfO_0 h0
      refine zi_t rfl ?_
      rw [zbnd_nI (by omega) (by decide), nI_clamp (show S < 2 ^ 31 by omega), nI_1, t4 f1, (nvN_ok hx.2 f1 f2).1]
      refine zi_bind (zwp_mono (c_adv hn hx.2 rfl) ?_)
      rintro ⟨o6, o7, o8, o9⟩ ht2
      exact zwi ⟨fun q => absurd q h8, fun _ => ⟨rfl, fun _ => ⟨rfl, rfl, ht2⟩, fun q => absurd rfl q⟩⟩
    · have hle := cfO_le (b := b) (n := n) (p := nxP b n p) (WH := W * H) (wl := wl)
      exact zi_f (fun q => h0 ((nI_z0 (by omega)).mp q)) (zwi ⟨fun q => absurd q h8, fun _ => ⟨rfl, fun q => absurd q h0, fun _ => rfl⟩⟩)
theorem m_readsSeat {b tape row msa : Nat → Int32} {n p W H wl S : Nat} {l0 nx pl sg so va : Int32} {wd : Int64} (hn : n ≤ 700) (hp : p ≤ n) (htp : ∀ k, k < n → tape k = b k) (hS : S < 8) (hWH : W * H ≤ 36) (hr : ∀ c, c < 36 → row (33 + c) = b2 (wl.testBit c)) (hT : MTok b n p l0 nx pl sg so va wd) : zwp (f_X12_readsSeat 0 (-1) l0 (nI n) row msa (nI S) (nI H) (nI W) nx pl sg so tape va wd) (fun r => (cfO b n p (W * H) wl = 0 → r.1 = 0 ∧ r.2.1 = -1 ∧ r.2.2.2.1 = upd msa S (nI (nvN b n p)) ∧ r.2.2.2.2.1 = nI (S + 1) ∧ MTok b n (nxP b n p) r.2.2.1 r.2.2.2.2.2.1 r.2.2.2.2.2.2.1 r.2.2.2.2.2.2.2.1 r.2.2.2.2.2.2.2.2.1 r.2.2.2.2.2.2.2.2.2.1 r.2.2.2.2.2.2.2.2.2.2) ∧ (¬ cfO b n p (W * H) wl = 0 → r.1 = nI (cfO b n p (W * H) wl) ∧ r.2.1 = nI p)) := by
  unfold f_X12_readsSeat
  refine zi_bind (zwp_mono (m_cellHere hn hp hWH hr hT) ?_)
  rintro ⟨r3, o1, o2⟩ ⟨g1, g2⟩
  dsimp only at g1 g2 ⊢
  rw [zbnd_nI hS (by decide), nI_clamp (by omega)]
  by_cases h0 : cfO b n p (W * H) wl = 0
  · have g1' := g1 h0
    injection g1' with e1 e2
    injection e2 with e2 e3
    subst e1 e2 e3
    refine zi_beq (a := 1) rfl (zi_f (by decide) ?_)
    refine zi_bind (zwp_mono (m_gs hn hp htp hT.2.1) ?_)
    rintro ⟨o5, o6, o7, o8, o9, o10, o11⟩ hT2
    exact zwi ⟨fun _ => ⟨rfl, rfl, rfl, by rw [nI_1], hT2⟩, fun q => absurd h0 q⟩
  · obtain ⟨g3, g4⟩ := g2 h0
    have hle := cfO_le (b := b) (n := n) (p := p) (WH := W * H) (wl := wl)
    refine zi_beq (a := 0) ?_ (zi_t rfl (zwi ⟨fun q => absurd q h0, fun _ => ⟨g3, g4⟩⟩))
    unfold f_X12_isGood
    rw [if_neg (fun q => h0 (by rw [g3] at q; exact (nI_z0 (by omega)).mp q))]
theorem c_readDull {b : Nat → Int32} {n p : Nat} {told : Bool} {db e k nm pl : Int32} (hn : n ≤ 700) (hp : p < n) (ht : CTok b n p e k nm pl) : zwp (f_X4_readDull db (b2 told) b e k (nI n) nm pl) (fun r => (told = true → r.1 = nI 5 ∧ r.2.2.2.2.2.2 = nI p) ∧ (told = false → r.1 = nI (nfO b n (nxP b n p) 0 9) ∧ (nfO b n (nxP b n p) 0 9 = 0 → r.2.1 = nI (nvN b n (nxP b n p)) ∧ r.2.2.1 = 1 ∧ CTok b n (nxP b n (nxP b n p)) r.2.2.2.1 r.2.2.2.2.1 r.2.2.2.2.2.1 r.2.2.2.2.2.2) ∧ (¬ nfO b n (nxP b n p) 0 9 = 0 → r.2.2.2.2.2.2 = nI (nxP b n p)))) := by
  have hx := nx_ok (b := b) hp
  unfold f_X4_readDull
  cases told with
  | true => exact zi_f (by decide) (zwi ⟨fun _ => ⟨rfl, ht.2.2.1⟩, fun q => (by cases q)⟩)
  | false =>
    refine zi_t rfl ?_
    refine zi_bind (zwp_mono (c_adv hn (Nat.le_of_lt hp) ht.1) ?_)
    rintro ⟨o1, o2, o3, o4⟩ ⟨t1, t2, t3, t4⟩
    dsimp only at t1 t2 t3 t4 ⊢
    subst t1 t2 t3
    refine zi_beq (c_numF (lo := 0) (hi := 9) hn hx.2 (by decide) (by decide) t4) ?_
    by_cases h0 : nfO b n (nxP b n p) 0 9 = 0
    · rw [h0]
      obtain ⟨f1, f2, f3, f4⟩ := nfO_0 h0
      refine zi_t rfl ?_
      refine zi_bind (zwp_mono (c_adv hn hx.2 rfl) ?_)
      rintro ⟨o6, o7, o8, o9⟩ ht2
      exact zwi ⟨fun q => (by cases q), fun _ => ⟨rfl, fun _ => ⟨by show o3 = _; rw [t4 f1, (nvN_ok hx.2 f1 f2).1], rfl, ht2⟩, fun q => absurd rfl q⟩⟩
    · have hle := nfO_le (b := b) (n := n) (p := nxP b n p) (lo := 0) (hi := 9)
      exact zi_f (fun q => h0 ((nI_z0 (by omega)).mp q)) (zwi ⟨fun q => (by cases q), fun _ => ⟨rfl, fun q => absurd q h0, fun _ => rfl⟩⟩)
theorem c_readLight {b light : Nat → Int32} {n p L : Nat} {rs e k nm pl : Int32} (hn : n ≤ 700) (hp : p < n) (hL : L ≤ 8) (ht : CTok b n p e k nm pl) : zwp (f_X4_readLight light (nI L) rs b e k (nI n) nm pl) (fun r => (0 < L → r.1 = nI 5 ∧ r.2.2.2.2.2.2.2 = nI p) ∧ (L = 0 → ∃ j, RowStop b n 9 (nxP b n p) j ∧ r.1 = nI (rowF b n (nxP b n p) j) ∧ r.2.2.1 = nI j ∧ (∀ i, i < j → r.2.1 i = nI (nvN b n (tn b n (nxP b n p) i))) ∧ CTok b n (tn b n (nxP b n p) j) r.2.2.2.2.1 r.2.2.2.2.2.1 r.2.2.2.2.2.2.1 r.2.2.2.2.2.2.2)) := by
  have hx := nx_ok (b := b) hp
  unfold f_X4_readLight
  by_cases h0 : L = 0
  · subst h0
    refine zi_t (show nI 0 ≤ 0 by decide) ?_
    refine zi_bind (zwp_mono (c_adv hn (Nat.le_of_lt hp) ht.1) ?_)
    rintro ⟨o1, o2, o3, o4⟩ ht1
    refine zi_bind (zwp_mono (c_readRow (base := 0) (most := 9) hn hx.2 (by decide) (by decide) (by decide) ht1) ?_)
    rintro ⟨r11, o5, o6, o7, o8, o9, o10⟩ ⟨j, g1, g2, g3, g4, g5, g6⟩
    dsimp only at g2 g3 g5 g6
    exact zwi ⟨fun q => by omega, fun _ => ⟨j, g1, g2, g5, fun i hi => by have := g3 i hi; rw [Nat.zero_add] at this; exact this, g6⟩⟩
  · exact zi_f (nI_nle (by omega) (by omega)) (zwi ⟨fun _ => ⟨rfl, ht.2.2.1⟩, fun q => absurd q h0⟩)
theorem c_readFigure {b start steps way : Nat → Int32} {n p W H wl F : Nat} {rs e k nm pl : Int32} (hn : n ≤ 700) (hp : p < n) (hF : F ≤ 8) (hw : wl < 2 ^ 63) (hWH : W * H ≤ 36) (ht : CTok b n p e k nm pl) : zwp (f_X4_readFigure (nI F) (nI H) start steps (lN wl) way (nI W) rs b e k (nI n) nm pl) (fun r => (F = 8 → r.1 = nI 2 ∧ r.2.2.2.2.2.2.2.2.2 = nI p) ∧ (¬ F = 8 → ¬ cfO b n (nxP b n p) (W * H) wl = 0 → r.1 = nI (cfO b n (nxP b n p) (W * H) wl) ∧ r.2.2.2.2.2.2.2.2.2 = nI (nxP b n p)) ∧ (¬ F = 8 → cfO b n (nxP b n p) (W * H) wl = 0 → ∃ j, RowStop b n 4 (nxP b n (nxP b n p)) j ∧ r.1 = nI (rowF b n (nxP b n (nxP b n p)) j) ∧ r.2.1 = nI (F + 1) ∧ r.2.2.1 = upd start F (nI (nvN b n (nxP b n p))) ∧ r.2.2.2.1 = upd steps F (nI j) ∧ (∀ i, i < j → r.2.2.2.2.1 (F * 8 + i) = nI (nvN b n (tn b n (nxP b n (nxP b n p)) i))) ∧ (∀ i, i < F * 8 ∨ F * 8 + 8 ≤ i → r.2.2.2.2.1 i = way i) ∧ CTok b n (tn b n (nxP b n (nxP b n p)) j) r.2.2.2.2.2.2.1 r.2.2.2.2.2.2.2.1 r.2.2.2.2.2.2.2.2.1 r.2.2.2.2.2.2.2.2.2)) := by
  have hx := nx_ok (b := b) hp
  unfold f_X4_readFigure
  by_cases h8 : F = 8
  · subst h8
    exact zi_f (by decide) (zwi ⟨fun _ => ⟨rfl, ht.2.2.1⟩, fun q => absurd rfl q, fun q => absurd rfl q⟩)
  · refine zi_t (nI_lt (b := 8) (by omega) (by decide)) ?_
    refine zi_bind (zwp_mono (c_adv hn (Nat.le_of_lt hp) ht.1) ?_)
    rintro ⟨o1, o2, o3, o4⟩ ⟨t1, t2, t3, t4⟩
    dsimp only at t1 t2 t3 t4 ⊢
    subst t1 t2 t3
    refine zi_beq (c_cellFault hn hx.2 hw hWH t4) ?_
    by_cases h0 : cfO b n (nxP b n p) (W * H) wl = 0
    · rw [h0]
      obtain ⟨f1, f2, f3, f4⟩ := cfO_0 h0
      refine zi_t rfl ?_
      rw [zbnd_nI (by omega) (by decide)]
      refine zi_bind (zwp_mono (c_adv hn hx.2 rfl) ?_)
      rintro ⟨o6, o7, o8, o9⟩ ht2
      dsimp only
      rw [show (8 : Int32) = nI 8 from rfl, pk_mul]
      refine zi_bind (zwp_mono (c_readRow (base := F * 8) (most := 4) hn (nx_le hx.2).2 (by decide) (by omega) (by decide) ht2) ?_)
      rintro ⟨r16, o10, o11, o12, o13, o14, o15⟩ ⟨j, g1, g2, g3, g4, g5, g6⟩
      dsimp only at g2 g3 g4 g5 g6 ⊢
      rw [zbnd_nI (by omega) (by decide), nI_clamp (show F < 2 ^ 31 by omega), nI_1, t4 f1, (nvN_ok hx.2 f1 f2).1, g5]
      exact zwi ⟨fun q => absurd q h8, fun _ q => absurd rfl q, fun _ _ => ⟨j, g1, g2, rfl, rfl, rfl, g3, g4, g6⟩⟩
    · have hle := cfO_le (b := b) (n := n) (p := nxP b n p) (WH := W * H) (wl := wl)
      exact zi_f (fun q => h0 ((nI_z0 (by omega)).mp q)) (zwi ⟨fun q => absurd q h8, fun _ _ => ⟨rfl, rfl⟩, fun _ q => absurd q h0⟩)
