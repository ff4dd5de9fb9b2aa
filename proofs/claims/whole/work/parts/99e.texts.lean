/-! the texts' methods from any heap: hE of start_W -/
def tx_sa (sa sv : Nat → Nat) (t : Nat) (k : Nat) : Nat := if k = 3000 then t else if 2000 ≤ k ∧ k < 3000 then sv (k - 2000) else sa k
theorem tx_sa_lo {sa sv : Nat → Nat} {t k : Nat} (h : k < 26) : tx_sa sa sv t k = sa k := by
  unfold tx_sa
  rw [if_neg (by omega), if_neg (by omega)]
theorem tx_sa_hi {sa sv : Nat → Nat} {t k : Nat} (h : k < 26) : tx_sa sa sv t (2000 + k) = sv k := by
  unfold tx_sa
  rw [if_neg (by omega), if_pos (by omega), show 2000 + k - 2000 = k by omega]
theorem tx_sa_t {sa sv : Nat → Nat} {t : Nat} : tx_sa sa sv t 3000 = t := if_pos rfl
theorem tx_S {sa sv : Nat → Nat} {t : Nat} {A : Nat → Prop} {U : State} {H : Heap} (h : vk_S 26 tx_len tx_byt sa sv A U H) : vk_S 26 tx_len tx_byt (tx_sa sa sv t) (fun k => tx_sa sa sv t (2000 + k)) A U H := by
  refine ⟨fun i hi => ?_, fun i j hi hj q => ?_⟩
  · have h1 := h.1 i hi
    rw [← tx_sa_lo (sa := sa) (sv := sv) (t := t) hi, ← tx_sa_hi (sa := sa) (sv := sv) (t := t) hi] at h1
    exact h1
  · rw [tx_sa_lo hi, tx_sa_lo hj] at q
    exact h.2 i j hi hj q
theorem tx_lift {l : Launch} {D : va_G} {n0 : Nat} {sa sv : Nat → Nat} {ck : Nat → ClassId} {d j : Nat} {as : List Value} {S : pS} {Q : pQ} {v : Int32} (hY : YS j = Y j) (hco : cost j = (0, 0, false, false)) (has : ∀ N t, as.map (pm_v N (tx_sa sa sv t)) = as.map (pm_v n0 sa)) (hQ : Q (.inl (some (.int v))) S)
    (hM : ∀ (N : Nat) (sa' : Nat → Nat) (vF : Value), (vF = .null ∨ ∃ t, vF = .retAddr t) → pm_Met l D N sa' ck (GS N sa' vF) TW YS cost (d + 1) j as S0 (fun o _ => o = .inl (some (.int v)))) : pm_Met l D n0 sa ck (GG n0 sa sv) TW Y cost (d + 1) j as S Q := by
  have e1 : pm_ws YS TW j = pm_ws Y TW j := by
    unfold pm_ws pm_hw
    rw [hY]
  unfold pm_Met at hM ⊢
  rw [hco]
  rw [hco, e1, hY] at hM
  intro p e ha hc hk s m args below hf happ hP _
  obtain ⟨hargs, hn0, -, hPP, hK', hG⟩ := hP
  obtain ⟨-, -, -, -, -, hS, hZ, hZq⟩ := hG
  have hA : ∀ q, s.heap.size ≤ q → n0 ≤ q := fun q h => Nat.le_trans hn0 h
  have hGS : ∃ (t : Nat) (vF : Value), (vF = .null ∨ ∃ t, vF = .retAddr t) ∧ GS s.heap.size (tx_sa sa sv t) vF s := by
    rcases hZq with hZq | ⟨t, hZq⟩
    · exact ⟨0, .null, Or.inl rfl, (tx_S hS).narrow hA, hZ.narrow hA, hZq.narrow hA⟩
    · refine ⟨t, .retAddr 3000, Or.inr ⟨_, rfl⟩, (tx_S hS).narrow hA, hZ.narrow hA, ?_⟩
      have e2 : pm_v s.heap.size (tx_sa sa sv t) (.retAddr 3000) = .ref t := by
        show Value.ref (tx_sa sa sv t 3000) = _
        rw [tx_sa_t]
      rw [e2]
      exact hZq.narrow hA
  obtain ⟨t, vF, hF, hGS⟩ := hGS
  obtain ⟨k, o, h1, h2, h3, h4⟩ := hM s.heap.size (tx_sa sa sv t) vF hF p e ha hc hk s m args below hf happ ⟨by rw [has]; exact hargs, Nat.le_refl _, (fun h => by cases h), (fun k q h => by simp [pm_w, S0] at h), hK', hGS⟩ trivial
  refine ⟨k, o, h1, h2, h3, ?_⟩
  rcases h4 with ⟨⟨hsame, ⟨v0, S', ho, hq, -⟩, hF2⟩, L, hFE, hL⟩ | ⟨q, ho, E, ce, L, ⟨⟨S', hq, -⟩, -⟩, -⟩
  · have hv : v0 = some (.int v) := by injection hq
    subst hv
    have hsz : (stepsAlone p.tables e k s).heap.size = s.heap.size := (hsame rfl).1
    have hall : ∀ q : Nat, (stepsAlone p.tables e k s).heap[q]? = s.heap[q]? := by
      intro q
      by_cases hq : q < s.heap.size
      · exact hF2.2 q hq (Nat.not_le.mpr hq)
      · rw [Array.getElem?_eq_none (by omega), Array.getElem?_eq_none (by omega)]
    refine Or.inl ⟨⟨hsame, ⟨some (.int v), S, ho, hQ, hPP.kept (fun _ q _ => hall q.1)⟩, ⟨hF2.1, fun q _ _ => hall q⟩⟩, L, hFE, fun q hq => hA _ (hL q hq)⟩
  · cases hq
theorem yy_269 : YS 269 = Y 269 := if_pos (by decide)
theorem yy_270 : YS 270 = Y 270 := if_pos (by decide)
theorem yy_271 : YS 271 = Y 271 := if_pos (by decide)
theorem hE_all {l : Launch} (D : va_G) (n0 : Nat) (sa sv : Nat → Nat) (ck : Nat → ClassId) (d j : Nat) (as : List Value) (S : pS) (Q : pQ) (hd : 5 ≤ d) (_ : M j = none) (h : zext j as S Q) : pm_Met l D n0 sa ck (GG n0 sa sv) TW Y cost (d + 1) j as S Q := by
  obtain ⟨d, rfl⟩ : ∃ d', d = d' + 1 + 1 + 1 := ⟨d - 3, by omega⟩
  match as, h with
  | [.retAddr k], g =>
    obtain ⟨rfl, hk, g2⟩ := g
    have h1 := zws g2
    rw [(tx_all1 k hk).1] at h1
    refine tx_lift yy_269 yc_269 (fun N t => ?_) h1 (fun N sa' vF hF => tx_length hk rfl)
    show [Value.ref (tx_sa sa sv t k)] = [Value.ref (sa k)]
    rw [tx_sa_lo hk]
  | [.retAddr k, .int i], g =>
    obtain ⟨hk, g2⟩ := g
    have hm : ∀ N t, [Value.retAddr k, Value.int i].map (pm_v N (tx_sa sa sv t)) = [Value.retAddr k, Value.int i].map (pm_v n0 sa) := by
      intro N t
      show [Value.ref (tx_sa sa sv t k), Value.int i] = [Value.ref (sa k), Value.int i]
      rw [tx_sa_lo hk]
    rcases g2 with ⟨rfl, g3⟩ | ⟨rfl, g3⟩
    · obtain ⟨hb, g4⟩ := zwp_bnd g3
      have h1 := zws g4
      obtain ⟨n, hn, rfl⟩ := nI_of (x := i) (fun q => hb (Or.inl q))
      rw [nI_clamp hn] at hb h1
      have hi : n < tx_len.getD k 0 := by
        rw [← (tx_all1 k hk).1]
        exact Nat.not_le.mp (fun q => hb (Or.inr q))
      exact tx_lift yy_270 yc_270 hm h1 (fun N sa' vF hF => tx_charAt hF hk hi rfl)
    · have h1 := zws g3
      exact tx_lift yy_271 yc_271 hm h1 (fun N sa' vF hF => tx_indexOf hk rfl)
/-- start_W, whatever the cells beyond the heap are -/
theorem start_V {p : Program} {e : Env} {s : State} {m : MethodId} {below : List Frame} {meth : Method} {c : Code} (l : Launch) (hl : l.stackTraces = false) {b L : Nat} {xs : Nat → Int32} (hL : L ≤ 3072) (C0 : lw_At p s m meth c b L xs) {ext : pCall} {df : Nat → pE} (hE : ∀ (D : va_G) (n0 : Nat) (sa sv : Nat → Nat) (ck : Nat → ClassId) (d j : Nat) (as : List Value) (S : pS) (Q : pQ), 5 ≤ d → M j = none → ext j as S Q → pm_Met l D n0 sa ck (GG n0 sa sv) TW Y cost (d + 1) j as S Q)
    (h : pm_ev (C_L_law L xs) 16 (pm_call M cost ext 15) cost (true, true) 0 1141 31924 (fun o _ => o = .inl (some (.int 1))) 0 (pm_ent 7 [.retAddr 1000]) [] 0 0 (0, df)) : W p l e room_1 s m #[Value.ref b] below meth c s.heap [] 0 0 (lw_Z below #[Value.ref b] s) (entryFrame m ([Value.ref b] : List Value).toArray 7) := by
  obtain ⟨hx, hb, hr, hml, hown, hts, hX, hbl, hlocks, hgv⟩ := C0
  obtain ⟨sa, sv, hG, hsb⟩ := GG_start hts hgv
  obtain ⟨D, ck, hK⟩ := K_start hts
  have hTs := Ts_start hts
  have hth : ∀ pc, pc_th (C_L_law L xs) pc = none := fun _ => rfl
  have B : pm_B p s m #[Value.ref b] meth c D ck s.heap.size (C_L_law L xs) code 7 RL (w_0 :: TW) (GG s.heap.size sa sv) := ⟨hx, hb, hml, hown, hTs, hr, hlocks, ⟨fun _ _ => trivial, fun pc E h => by rw [hth] at h; cases h⟩, (fun h => by cases h), hK, Nat.le_refl _, hG⟩
  have hT : pm_T l s #[Value.ref b] s.heap.size sa (C_L_law L xs) code RL (w_0 :: TW) TW Y := pm_T_of hl cl_all ar_all ik_L_law ck_L_law s _ hG (fun L' xs' q => by cases q; exact ⟨by rw [hsb]; exact hX, by rw [hsb]; exact hbl, by rw [hsb]; exact Nat.not_le.mpr hbl, by omega⟩)
  have key := h (fun pc ls st uc us S => uc ≤ 1141 ∧ us ≤ 31924 → pm_X p l e (pm_R 16 1141 31924) s m #[Value.ref b] below meth c D s.heap.size sa ck 7 1141 31924 true (fun o _ => o = .inl (some (.int 1))) pc ls st uc us S) (fun pc ls st uc us S' q => pm_sound_step (d := 15) (ak := (true, true)) B hT (GG_m _ sa sv) (sound hl (hE D s.heap.size sa sv ck) 15) (fun _ => Nat.le_refl _) pc ls st uc us S' q) ⟨Nat.zero_le _, Nat.zero_le _⟩
  rw [lg_entry_eq]
  intro T hT0 X
  have hlr := pm_ent_lr (n0 := s.heap.size) (sa := sa) (nL := 7) (as := [.retAddr 1000]) (by decide)
  have e0 : [Value.retAddr 1000].map (pm_v s.heap.size sa) = [Value.ref b] := by
    show [Value.ref (sa 1000)] = _
    rw [hsb]
  rw [e0] at hlr
  obtain ⟨t, a1, o, b1, b2, b3⟩ := key _ s.heap [] hlr (fun k q h => by simp [pm_w] at h) va_S.rf T hT0 X
  refine ⟨t, a1, o, b1, b2, ?_⟩
  rcases b3 with ⟨⟨-, ⟨v, S, ho, hQ, -⟩, -⟩, L', hF, hfree⟩ | ⟨q, -, E, ce, L', ⟨⟨S, hQ, -⟩, -⟩, -⟩
  · have hv : v = some (.int 1) := by injection hQ
    subst hv
    exact ⟨ho, hF.1, hF.2.1, hF.2.2.sift (fun x hx => Or.inr (hfree x hx))⟩
  · cases hQ
