/-! GAME: choices and what rests -/
/-- gains by choices: twice the choices for the first, and one more for the other -/
noncomputable def gG (P : Pl) (wl hr : Nat) (ncell nsore nheld : Nat → Int32) (f g : Nat) (j : Nat) : Int32 := sGain P wl hr (tGame ncell nsore nheld f g (j / 2 / 2 == 1) (j / 2 % 2 == 1)) (if j % 2 = 0 then f else g)
theorem c_play {P : Pl} (hP : plOk P) {hr pn wl f g k : Nat} {ncell nsore nheld nlead rows fcell fsore fheld flead vals gst hst gains : Nat → Int32} {ffig fhr fpn : Int32} {fwl : Int64} (hN : NowR P hr pn wl ncell nsore nheld nlead rows) (hf : f < qF P) (hg : g < qF P) (hk : k < 4) : zwp (f_X11_play (nI f) (nI g) (nI k) fcell ffig fheld fhr flead fpn fsore fwl gains vals ncell (nI (qF P)) nheld (nI hr) nlead (nI pn) nsore (lN wl) (qDb P) (nI (qF P)) (qGc P) (nI (qGn P)) gst (nI (qH P)) (qHc P) (nI (qHn P)) hst (qLt P) (nI (qNl P)) (qSt P) (qWy P) (nI (qW P))) (fun r => r.2.2.2.2.2.2.2.2.1 = upd (upd gains (2 * k) (gG P wl hr ncell nsore nheld f g (2 * k))) (2 * k + 1) (gG P wl hr ncell nsore nheld f g (2 * k + 1))) := by
  have hF := hP.2.2.2.2.1
  have hWH := hP.wh
  have hr9 := hN.2.2.1
  have hx : ((nI k &&& 2) = 0 ↔ (k / 2 == 1) = false) ∧ ((nI k &&& 1) = 0 ↔ (k % 2 == 1) = false) := by
    have : k = 0 ∨ k = 1 ∨ k = 2 ∨ k = 3 := by omega
    rcases this with rfl | rfl | rfl | rfl <;> decide
  obtain ⟨hx, hy⟩ := hx
  have e0 : gG P wl hr ncell nsore nheld f g (2 * k) = sGain P wl hr (tGame ncell nsore nheld f g (k / 2 == 1) (k % 2 == 1)) f := by
    unfold gG
    rw [show 2 * k / 2 = k by omega, if_pos (show 2 * k % 2 = 0 by omega)]
  have e1 : gG P wl hr ncell nsore nheld f g (2 * k + 1) = sGain P wl hr (tGame ncell nsore nheld f g (k / 2 == 1) (k % 2 == 1)) g := by
    unfold gG
    rw [show (2 * k + 1) / 2 = k by omega, if_neg (show ¬ (2 * k + 1) % 2 = 0 by omega)]
  rw [e0, e1]
  revert hx hy
  generalize (k / 2 == 1) = x
  generalize (k % 2 == 1) = y
  intro hx hy
  unfold f_X11_play f_X8_copyFrom
  refine zi_beq rfl ?_
  have hld : ∀ f, f < qF P → va_cpy nlead flead 0 0 8 f = nI 0 := fun f hf => by rw [cpy8 (by omega)]; exact hN.2.2.2.2.2.2.2.2 f hf
  have cp : ∀ u v : Nat → Int32, ∀ j, j < qF P → va_cpy u v 0 0 8 j = u j := fun u v j hj => cpy8 (by omega)
  have hup : ∀ (u v : Nat → Int32) (m j : Nat), u j = v j → upd u m 3 j = upd v m 3 j := by
    intro u v m j h
    by_cases he : j = m
    · subst he; rw [pk_us, pk_us]
    · rw [pk_un he, pk_un he]; exact h
  refine zi_bind (zwp_mono (Q := fun hd => ∀ j, j < qF P → hd j = (if x then upd nheld f 3 else nheld) j) ?_ ?_)
  · cases x with
    | false => exact zi_t (hx.2 rfl) (zwi (fun j hj => cp _ _ j hj))
    | true =>
      refine zi_f (fun e => by have := hx.1 e; cases this) ?_
      rw [zbnd_nI (by omega) (by decide), nI_clamp (by omega)]
      exact zwi (fun j hj => hup _ _ _ _ (cp _ _ j hj))
  intro hd1 k1
  refine zi_bind (zwp_mono (Q := fun hd => ∀ j, j < qF P → hd j = (tGame ncell nsore nheld f g x y).2.2 j) ?_ ?_)
  · cases y with
    | false => exact zi_t (hy.2 rfl) (zwi k1)
    | true =>
      refine zi_f (fun e => by have := hy.1 e; cases this) ?_
      rw [zbnd_nI (by omega) (by decide), nI_clamp (by omega)]
      exact zwi (fun j hj => hup _ _ _ _ (k1 j hj))
  intro hd k2
  have hT : tEq (qF P) (va_cpy ncell fcell 0 0 8, va_cpy nsore fsore 0 0 8, hd) (tGame ncell nsore nheld f g x y) := fun j hj => ⟨cp _ _ j hj, cp _ _ j hj, k2 j hj⟩
  have hto : tOk P (tGame ncell nsore nheld f g x y) := tGame_ok hN.tk
  have htk : tOk P (va_cpy ncell fcell 0 0 8, va_cpy nsore fsore 0 0 8, hd) := ⟨fun j hj => by rw [(hT j hj).1]; exact hto.1 j hj, fun j hj => by rw [(hT j hj).2.2]; exact hto.2 j hj⟩
  rw [← sGain_cg hP hf hT, ← sGain_cg hP hg hT]
  refine zl_bind (P := fun k a => ∃ v g' h, a = (sAcc P wl hr (va_cpy ncell fcell 0 0 8, va_cpy nsore fsore 0 0 8, hd) f k, sAcc P wl hr (va_cpy ncell fcell 0 0 8, va_cpy nsore fsore 0 0 8, hd) g k, nI k, (sRun P wl (fun _ => 0) hr (va_cpy ncell fcell 0 0 8, va_cpy nsore fsore 0 0 8, hd) k).1, (sRun P wl (fun _ => 0) hr (va_cpy ncell fcell 0 0 8, va_cpy nsore fsore 0 0 8, hd) k).2.2, nI (hr + k), (sRun P wl (fun _ => 0) hr (va_cpy ncell fcell 0 0 8, va_cpy nsore fsore 0 0 8, hd) k).2.1, v, g', h)) (Post := fun b => ∃ v g' h, b = (sAcc P wl hr (va_cpy ncell fcell 0 0 8, va_cpy nsore fsore 0 0 8, hd) f 8, sAcc P wl hr (va_cpy ncell fcell 0 0 8, va_cpy nsore fsore 0 0 8, hd) g 8, (sRun P wl (fun _ => 0) hr (va_cpy ncell fcell 0 0 8, va_cpy nsore fsore 0 0 8, hd) 8).1, (sRun P wl (fun _ => 0) hr (va_cpy ncell fcell 0 0 8, va_cpy nsore fsore 0 0 8, hd) 8).2.2, nI (hr + 8), (sRun P wl (fun _ => 0) hr (va_cpy ncell fcell 0 0 8, va_cpy nsore fsore 0 0 8, hd) 8).2.1, v, g', h)) 8 (by decide) ⟨vals, gst, hst, rfl⟩ ?_ ?_ ?_
  · rintro k hk _ ⟨v, g', h, rfl⟩
    refine zi_f (by rw [show (8 : Int32) = nI 8 from rfl]; exact nI_ge hk (by decide)) ?_
    refine zi_bind (zwp_mono (c_futK hP (ld := fun _ => 0) (by omega) (fun f hf => ⟨hld f hf, by omega⟩) (hN.wl63 hP) htk) ?_)
    rintro ⟨q1, q2, q3, q4, q5, q6, q7⟩ ⟨g1, g2, g3, g4⟩
    dsimp only at g1 g2 g3 g4
    subst g1 g2 g3 g4
    refine zi_beq (c_othersWith hF hf) ?_
    refine zi_beq (a := if nI (sWith (qF P) (sRun P wl (fun _ => 0) hr (va_cpy ncell fcell 0 0 8, va_cpy nsore fsore 0 0 8, hd) (k + 1)).1 f) ≤ 0 then 0 else 2) (by split <;> rfl) ?_
    refine zi_beq (c_othersWith hF hg) ?_
    refine zi_beq (a := if nI (sWith (qF P) (sRun P wl (fun _ => 0) hr (va_cpy ncell fcell 0 0 8, va_cpy nsore fsore 0 0 8, hd) (k + 1)).1 g) ≤ 0 then 0 else 2) (by split <;> rfl) ?_
    exact zwi ⟨q5, q6, q7, by rw [nI_1]; rfl⟩
  · rintro _ ⟨v, g', h, rfl⟩
    exact zi_t (by decide) (zwi ⟨v, g', h, rfl⟩)
  · rintro _ ⟨v, g', h, rfl⟩
    dsimp only
    rw [show (2 : Int32) = nI 2 from rfl, pk_mul, show (1 : Int32) = nI 1 from rfl, nI_add, zbnd_nI (by omega) (by decide), zbnd_nI (by omega) (by decide), zbnd_nI (by omega) (by decide), zbnd_nI (by omega) (by decide), nI_clamp (by omega), nI_clamp (by omega), nI_clamp (by omega), nI_clamp (by omega)]
    exact zwi rfl
/-- which choices rest -/
def rst (G : Nat → Int32) (k : Nat) : Bool := !decide (G (2 * k) < G (2 * (k ^^^ 2))) && !decide (G (2 * k + 1) < G (2 * (k ^^^ 1) + 1))
theorem c_rests {G gains : Nat → Int32} {k : Nat} (hk : k < 4) (h : ∀ j, j < 8 → gains j = G j) : f_X11_rests (nI k) gains = some (b2 (rst G k)) := by
  have key : ∀ m n a c : Nat, m < 8 → n < 8 → a < 8 → c < 8 → zbnd (nI m) 8 (zbnd (nI n) 8 (Option.bind (α := Int32) (if gains (nI m).toNatClampNeg < gains (nI n).toNatClampNeg then some (0 : Int32) else some 1) (fun (j1 : Int32) => if j1 = 0 then some (0 : Int32) else zbnd (nI a) 8 (zbnd (nI c) 8 (if gains (nI a).toNatClampNeg < gains (nI c).toNatClampNeg then some (0 : Int32) else some 1))))) = some (b2 (!decide (G m < G n) && !decide (G a < G c))) := by
    intro m n a c hm hn ha hc
    rw [zbnd_nI hm (by decide), zbnd_nI hn (by decide), zbnd_nI ha (by decide), zbnd_nI hc (by decide), nI_clamp (by omega), nI_clamp (by omega), nI_clamp (by omega), nI_clamp (by omega), h m hm, h n hn, h a ha, h c hc]
    by_cases h1 : G m < G n
    · rw [if_pos h1, decide_eq_true h1]; rfl
    · rw [if_neg h1, decide_eq_false h1]
      show (if G a < G c then some (0 : Int32) else some 1) = _
      by_cases h2 : G a < G c
      · rw [if_pos h2, decide_eq_true h2]; rfl
      · rw [if_neg h2, decide_eq_false h2]; rfl
  have : k = 0 ∨ k = 1 ∨ k = 2 ∨ k = 3 := by omega
  rcases this with rfl | rfl | rfl | rfl
  · exact key 0 4 1 3 (by decide) (by decide) (by decide) (by decide)
  · exact key 2 6 3 1 (by decide) (by decide) (by decide) (by decide)
  · exact key 4 0 5 7 (by decide) (by decide) (by decide) (by decide)
  · exact key 6 2 7 5 (by decide) (by decide) (by decide) (by decide)
/-- from the last choices down -/
def dM (p : Nat → Bool) : Nat → Int32 × Int32
  | 0 => (0, -1)
  | k + 1 => if p (3 - k) then ((dM p k).1 + 1, nI (10 * ((3 - k) / 2) + (3 - k) % 2)) else dM p k
/-- from the first choices up -/
def uM (p : Nat → Bool) : Nat → Int32 × Int32
  | 0 => (0, -1)
  | k + 1 => if p k then ((uM p k).1 + 1, if (uM p k).2 = -1 then nI (10 * (k / 2) + k % 2) else (uM p k).2) else uM p k
theorem du_M {p : Nat → Bool} : dM p 4 = uM p 4 := by
  have h : ∀ a b c d : Bool, dM (fun k => match k with | 0 => a | 1 => b | 2 => c | _ => d) 4 = uM (fun k => match k with | 0 => a | 1 => b | 2 => c | _ => d) 4 := by decide
  have hd : ∀ q : Nat → Bool, (∀ k, k < 4 → q k = p k) → dM q 4 = dM p 4 ∧ uM q 4 = uM p 4 := by
    intro q hq
    unfold dM dM dM dM dM uM uM uM uM uM
    rw [hq 0 (by decide), hq 1 (by decide), hq 2 (by decide), hq 3 (by decide)]
    exact ⟨rfl, rfl⟩
  have := hd (fun k => match k with | 0 => p 0 | 1 => p 1 | 2 => p 2 | _ => p 3) (fun k hk => by
    have : k = 0 ∨ k = 1 ∨ k = 2 ∨ k = 3 := by omega
    rcases this with rfl | rfl | rfl | rfl <;> rfl)
  rw [← this.1, ← this.2, h]
theorem c_game {P : Pl} (hP : plOk P) {hr pn wl : Nat} {ncell nsore nheld nlead fcell fsore fheld flead vals gst hst : Nat → Int32} {ffig fhr fpn : Int32} {fwl : Int64} {rows : Nat → Int32} (hN : NowR P hr pn wl ncell nsore nheld nlead rows) {a1 a2 a3 : Int32} {gains : Nat → Int32} : zwp (f_X11_game a1 a2 a3 fcell ffig fheld fhr flead fpn fsore fwl gains vals ncell (nI (qF P)) nheld (nI hr) nlead (nI pn) nsore (lN wl) (qDb P) (nI (qF P)) (qGc P) (nI (qGn P)) gst (nI (qH P)) (qHc P) (nI (qHn P)) hst (qLt P) (nI (qNl P)) (qSt P) (qWy P) (nI (qW P))) (fun r => r.1 = toC (cond (okN (qF P) a1) (cond (okN (qF P) a2) (cond (okN (1 + 1) a3) (if a1 = a2 then .inr true else .inl (if a3 = 0 then (uM (rst (gG P wl hr ncell nsore nheld a1.toNatClampNeg a2.toNatClampNeg)) 4).1 else (uM (rst (gG P wl hr ncell nsore nheld a1.toNatClampNeg a2.toNatClampNeg)) 4).2)) (.inr false)) (.inr false)) (.inr false))) := by
  have hF := hP.2.2.2.2.1
  have hWH := hP.wh
  have hr9 := hN.2.2.1
  unfold f_X11_game
  refine zi_beq (c_checkFigure (F := qF P) (by omega)) ?_
  cases hc0 : okN (qF P) a1 with
  | false => exact zwi rfl
  | true =>
    refine zi_beq (c_checkFigure (F := qF P) (by omega)) ?_
    cases hc1 : okN (qF P) a2 with
    | false => exact zwi rfl
    | true =>
      refine zi_beq (c_checkWhat (n := 1) (by decide)) ?_
      cases hc2 : okN (1 + 1) a3 with
      | false => exact zwi rfl
      | true =>
        obtain ⟨f, hf, rfl⟩ := okN_t hc0
        obtain ⟨g, hg, rfl⟩ := okN_t hc1
        rw [nI_clamp (show f < 2 ^ 31 by omega), nI_clamp (show g < 2 ^ 31 by omega)]
        refine zi_c (fun q => ?_) (fun q => ?_)
        · refine zwi ?_
          rw [if_pos q]; rfl
        rw [if_neg q]
        generalize hG : gG P wl hr ncell nsore nheld f g = G
        refine zl_bind (P := fun k a => ∃ y5 y6 y7 y8 y9 y10 y11 y12 gn y14 y15 y16, a = (nI k, y5, y6, y7, y8, y9, y10, y11, y12, gn, y14, y15, y16) ∧ ∀ j, j < 2 * k → gn j = G j) (Post := fun b => ∀ j, j < 8 → b.2.2.2.2.2.2.2.2.1 j = G j) 4 (by decide) ⟨_, _, _, _, _, _, _, _, _, _, _, _, rfl, fun j hj => by omega⟩ ?_ ?_ ?_
        · rintro k hk _ ⟨y5, y6, y7, y8, y9, y10, y11, y12, gn, y14, y15, y16, rfl, h⟩
          refine zi_f (by rw [show (4 : Int32) = nI 4 from rfl]; exact nI_ge hk (by decide)) ?_
          refine zi_bind (zwp_mono (c_play hP hN hf hg hk) ?_)
          rintro ⟨o1, o2, o3, o4, o5, o6, o7, o8, o9, o10, o11, o12⟩ e
          dsimp only at e
          subst e
          refine zwi ⟨_, _, _, _, _, _, _, _, _, _, _, _, by rw [nI_1], ?_⟩
          intro j hj
          rw [hG]
          by_cases h1 : j = 2 * k + 1
          · subst h1; rw [pk_us]
          · rw [pk_un h1]
            by_cases h2 : j = 2 * k
            · subst h2; rw [pk_us]
            · rw [pk_un h2]; exact h j (by omega)
        · rintro _ ⟨y5, y6, y7, y8, y9, y10, y11, y12, gn, y14, y15, y16, rfl, h⟩
          exact zi_t (by decide) (zwi h)
        · rintro ⟨y5, y6, y7, y8, y9, y10, y11, y12, gn, y14, y15, y16⟩ h
          dsimp only at h ⊢
          refine zl_bind (P := fun k a => a = ((dM (rst G) k).1, (dM (rst G) k).2, nI 3 - nI k)) (Post := fun b => b = dM (rst G) 4) 4 (by decide) rfl ?_ ?_ ?_
          · rintro k hk _ rfl
            rw [show nI 3 - nI k = nI (3 - k) by
              have : k = 0 ∨ k = 1 ∨ k = 2 ∨ k = 3 := by omega
              rcases this with rfl | rfl | rfl | rfl <;> decide]
            refine zi_f (by rw [ck_lt0, nI_toInt (by omega)]; omega) ?_
            refine zi_beq (c_rests (show 3 - k < 4 by omega) h) ?_
            have hs : nI (3 - k) + (-1 : Int32) = nI 3 - nI (k + 1) := by
              have : k = 0 ∨ k = 1 ∨ k = 2 ∨ k = 3 := by omega
              rcases this with rfl | rfl | rfl | rfl <;> decide
            have hv : (10 : Int32) * (nI (3 - k) >>> ((1 : Int32) &&& 31)) + (nI (3 - k) &&& 1) = nI (10 * ((3 - k) / 2) + (3 - k) % 2) := by
              have : k = 0 ∨ k = 1 ∨ k = 2 ∨ k = 3 := by omega
              rcases this with rfl | rfl | rfl | rfl <;> decide
            cases hc : rst G (3 - k) with
            | false =>
              refine zi_t rfl (zwi ?_)
              rw [hs, show dM (rst G) (k + 1) = dM (rst G) k by show (if rst G (3 - k) = true then _ else _) = _; rw [hc]; rfl]; rfl
            | true =>
              refine zi_f (by decide) (zwi ?_)
              rw [hs, hv, show dM (rst G) (k + 1) = ((dM (rst G) k).1 + 1, nI (10 * ((3 - k) / 2) + (3 - k) % 2)) by show (if rst G (3 - k) = true then _ else _) = _; rw [hc]; rfl]; rfl
          · rintro _ rfl
            exact zi_t (show nI 3 - nI 4 < 0 by decide) (zwi rfl)
          · rintro _ rfl
            rw [du_M]
            exact zi_c (fun q => zwi (by rw [if_pos q]; rfl)) (fun q => zwi (by rw [if_neg q]; rfl))
theorem m_game {P : Pl} (hP : plOk P) {hr pn wl : Nat} {ncell nsore nheld nlead : Nat → Int32} {mwl mways mlight mcode rows mtold mpile : Nat → Int32} {mga mha mthr : Int32} (hm : mPl P mwl mways mlight mcode mga mha) (hN : NowR P hr pn wl ncell nsore nheld nlead rows) {a1 a2 a3 : Int32} : zwp (f_X12_game a1 a2 a3 mcode (qDb P) (-1 : Int32) (nI (qF P)) mga mha mlight (nI (qNl P)) mpile rows (nI (qH P)) mthr mtold mwl mways (nI (qW P))) (fun r => r.1 = toV (cond (okN (qF P) a1) (cond (okN (qF P) a2) (cond (okN (1 + 1) a3) (if a1 = a2 then .inr true else .inl (if a3 = 0 then (uM (rst (gG P wl hr ncell nsore nheld a1.toNatClampNeg a2.toNatClampNeg)) 4).1 else (uM (rst (gG P wl hr ncell nsore nheld a1.toNatClampNeg a2.toNatClampNeg)) 4).2)) (.inr false)) (.inr false)) (.inr false)) ∧ r.2.2.2.1 = toT (cond (okN (qF P) a1) (cond (okN (qF P) a2) (cond (okN (1 + 1) a3) (if a1 = a2 then .inr true else .inl (if a3 = 0 then (uM (rst (gG P wl hr ncell nsore nheld a1.toNatClampNeg a2.toNatClampNeg)) 4).1 else (uM (rst (gG P wl hr ncell nsore nheld a1.toNatClampNeg a2.toNatClampNeg)) 4).2)) (.inr false)) (.inr false)) (.inr false)) ∧ ∀ k, k < 70 → r.2.2.1 k = rows k) := by
  have hF := hP.2.2.2.2.1
  have hWH := hP.wh
  have hr9 := hN.2.2.1
  unfold f_X12_game
  refine zi_beq (m_isFigure (F := qF P) (by omega)) ?_
  cases hc0 : okN (qF P) a1 with
  | false => exact zi_t rfl (zwi ⟨rfl, rfl, fun _ _ => rfl⟩)
  | true =>
    refine zi_f (by decide) ?_
    refine zi_beq (m_isFigure (F := qF P) (by omega)) ?_
    cases hc1 : okN (qF P) a2 with
    | false => exact zi_t rfl (zwi ⟨rfl, rfl, fun _ _ => rfl⟩)
    | true =>
      refine zi_f (by decide) ?_
      refine zi_beq (m_isWhat (n := 1) (by decide)) ?_
      cases hc2 : okN (1 + 1) a3 with
      | false => exact zi_t rfl (zwi ⟨rfl, rfl, fun _ _ => rfl⟩)
      | true =>
        refine zi_f (by decide) ?_
        obtain ⟨f, hf, rfl⟩ := okN_t hc0
        obtain ⟨g, hg, rfl⟩ := okN_t hc1
        rw [nI_clamp (show f < 2 ^ 31 by omega), nI_clamp (show g < 2 ^ 31 by omega)]
        refine zi_beq (a := b2 (!decide (nI f = nI g))) (by
          by_cases q : nI f = nI g
          · rw [if_pos q, decide_eq_true q]; rfl
          · rw [if_neg q, decide_eq_false q]; rfl) ?_
        refine zi_beq (m_right0 (by decide)) ?_
        by_cases q : nI f = nI g
        · rw [decide_eq_true q, if_pos q]
          exact zi_t rfl (zwi ⟨rfl, rfl, fun _ _ => rfl⟩)
        rw [decide_eq_false q, if_neg q]
        refine zi_f (by decide) ?_
        have hne : ¬ f = g := fun e => q (by rw [e])
        refine zl_bind (P := fun k a => ∃ p r t, a = ((uM (rst (gG P wl hr ncell nsore nheld f g)) k).1, (uM (rst (gG P wl hr ncell nsore nheld f g)) k).2, nI k, p, r, t) ∧ ∀ j, j < 70 → r j = rows j) (Post := fun b => ∃ p r t, b = ((uM (rst (gG P wl hr ncell nsore nheld f g)) 4).1, (uM (rst (gG P wl hr ncell nsore nheld f g)) 4).2, p, r, t) ∧ ∀ j, j < 70 → r j = rows j) 4 (by decide) ⟨_, _, _, rfl, fun _ _ => rfl⟩ ?_ ?_ ?_
        · rintro k hk _ ⟨p0, r0, t0, rfl, h0⟩
          refine zi_f (by rw [show (4 : Int32) = nI 4 from rfl]; exact nI_ge hk (by decide)) ?_
          have hb : (1 : Int32) - nI k / 2 = b2 (!(k / 2 == 1)) ∧ nI k - nI k / 2 * 2 = b2 (k % 2 == 1) ∧ nI k / 2 = b2 (k / 2 == 1) ∧ (1 : Int32) - b2 (k % 2 == 1) = b2 (!(k % 2 == 1)) ∧ 2 * (k ^^^ 2) / 2 / 2 = 1 - k / 2 ∧ 2 * (k ^^^ 2) / 2 % 2 = k % 2 ∧ (2 * (k ^^^ 1) + 1) / 2 / 2 = k / 2 ∧ (2 * (k ^^^ 1) + 1) / 2 % 2 = 1 - k % 2 ∧ ((1 - k / 2 == 1) = !(k / 2 == 1)) ∧ ((1 - k % 2 == 1) = !(k % 2 == 1)) := by
            have : k = 0 ∨ k = 1 ∨ k = 2 ∨ k = 3 := by omega
            rcases this with rfl | rfl | rfl | rfl <;> decide
          obtain ⟨b1, b2', b3, b4, b5, b6, b7, b8, b9, b10⟩ := hb
          rw [b1, b2', b3, b4]
          have g1 : gG P wl hr ncell nsore nheld f g (2 * k) = sGain P wl hr (tGame ncell nsore nheld f g (k / 2 == 1) (k % 2 == 1)) f := by
            unfold gG
            rw [show 2 * k / 2 = k by omega, if_pos (show 2 * k % 2 = 0 by omega)]
          have g2 : gG P wl hr ncell nsore nheld f g (2 * k + 1) = sGain P wl hr (tGame ncell nsore nheld g f (k % 2 == 1) (k / 2 == 1)) g := by
            rw [sGain_cg hP hg (tGame_sw hne)]
            unfold gG
            rw [show (2 * k + 1) / 2 = k by omega, if_neg (show ¬ (2 * k + 1) % 2 = 0 by omega)]
          have g3 : gG P wl hr ncell nsore nheld f g (2 * (k ^^^ 2)) = sGain P wl hr (tGame ncell nsore nheld f g (!(k / 2 == 1)) (k % 2 == 1)) f := by
            unfold gG
            rw [b5, b6, b9, if_pos (show 2 * (k ^^^ 2) % 2 = 0 by omega)]
          have g4 : gG P wl hr ncell nsore nheld f g (2 * (k ^^^ 1) + 1) = sGain P wl hr (tGame ncell nsore nheld g f (!(k % 2 == 1)) (k / 2 == 1)) g := by
            rw [sGain_cg hP hg (tGame_sw hne)]
            unfold gG
            rw [b7, b8, b10, if_neg (show ¬ (2 * (k ^^^ 1) + 1) % 2 = 0 by omega)]
          refine zi_bind (zwp_mono (m_gains hP hm hN h0 hf hg) ?_)
          rintro ⟨s1, p1, r1, t1⟩ ⟨e1, h1⟩
          dsimp only at e1 h1 ⊢
          refine zi_bind (zwp_mono (m_gains hP hm hN h1 hf hg) ?_)
          rintro ⟨s2, p2, r2, t2⟩ ⟨e2, h2⟩
          dsimp only at e2 h2 ⊢
          rw [← g3] at e1
          rw [← g1] at e2
          subst e1 e2
          refine zi_c (fun q1 => ?_) (fun q1 => ?_)
          · have : uM (rst (gG P wl hr ncell nsore nheld f g)) (k + 1) = uM (rst (gG P wl hr ncell nsore nheld f g)) k := by
              show (if rst _ k = true then _ else _) = _
              unfold rst
              rw [decide_eq_true q1]; rfl
            exact zwi ⟨_, _, _, by rw [nI_1, this], h2⟩
          refine zi_bind (zwp_mono (m_gains hP hm hN h2 hg hf) ?_)
          rintro ⟨s3, p3, r3, t3⟩ ⟨e3, h3⟩
          dsimp only at e3 h3 ⊢
          refine zi_bind (zwp_mono (m_gains hP hm hN h3 hg hf) ?_)
          rintro ⟨s4, p4, r4, t4⟩ ⟨e4, h4⟩
          dsimp only at e4 h4 ⊢
          rw [← g4] at e3
          rw [← g2] at e4
          subst e3 e4
          refine zi_c (fun q2 => ?_) (fun q2 => ?_)
          · have hq2 : ¬ gG P wl hr ncell nsore nheld f g (2 * k + 1) < gG P wl hr ncell nsore nheld f g (2 * (k ^^^ 1) + 1) := Int32.not_lt.mpr q2
            have : uM (rst (gG P wl hr ncell nsore nheld f g)) (k + 1) = ((uM (rst (gG P wl hr ncell nsore nheld f g)) k).1 + 1, if (uM (rst (gG P wl hr ncell nsore nheld f g)) k).2 = -1 then nI (10 * (k / 2) + k % 2) else (uM (rst (gG P wl hr ncell nsore nheld f g)) k).2) := by
              show (if rst _ k = true then _ else _) = _
              rw [if_pos]
              unfold rst
              rw [decide_eq_false q1, decide_eq_false hq2]; rfl
            have hv : (10 : Int32) * b2 (k / 2 == 1) + b2 (k % 2 == 1) = nI (10 * (k / 2) + k % 2) := by
              have : k = 0 ∨ k = 1 ∨ k = 2 ∨ k = 3 := by omega
              rcases this with rfl | rfl | rfl | rfl <;> decide
            refine zi_c (fun q3 => ?_) (fun q3 => ?_)
            · exact zwi ⟨_, _, _, by rw [this, if_pos q3, nI_1, hv], h4⟩
            · exact zwi ⟨_, _, _, by rw [this, if_neg q3, nI_1], h4⟩
          · have hq2 : gG P wl hr ncell nsore nheld f g (2 * k + 1) < gG P wl hr ncell nsore nheld f g (2 * (k ^^^ 1) + 1) := Int32.not_le.mp q2
            have : uM (rst (gG P wl hr ncell nsore nheld f g)) (k + 1) = uM (rst (gG P wl hr ncell nsore nheld f g)) k := by
              show (if rst _ k = true then _ else _) = _
              rw [if_neg]
              unfold rst
              rw [decide_eq_true hq2]; simp
            exact zwi ⟨_, _, _, by rw [nI_1, this], h4⟩
        · rintro _ ⟨p0, r0, t0, rfl, h0⟩
          exact zi_t (by decide) (zwi ⟨_, _, _, rfl, h0⟩)
        · rintro _ ⟨p0, r0, t0, rfl, h0⟩
          dsimp only
          exact zi_c (fun q => zwi ⟨by rw [if_pos q]; rfl, rfl, h0⟩) (fun q => zwi ⟨by rw [if_neg q]; rfl, rfl, h0⟩)
