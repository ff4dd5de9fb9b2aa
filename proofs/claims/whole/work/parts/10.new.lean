def pm_okN (own : String) (Ts : List Cond) (i ci : Nat) (fs : List Value) : Prop := ∃ (C' : String) (T : u_T) (N : Nat), vwCl[ci]? = some (C', T, N) ∧ Cond.classLink own i C' ∈ Ts ∧ Cond.instantiable C' N ∈ Ts ∧ Cond.initialized C' ∈ Ts ∧ fs.length = N ∧ (∀ j, j < N → ∀ t, parseFieldDescriptor (T j).2.2.1 = some t → defaultValue t = vp_V fs j) ∧ ∀ n0 sa, fs.map (pm_v n0 sa) = fs
def pm_okK (own : String) (Ts : List Cond) (sa : Nat → Nat) (s : State) (i : Nat) (v : Value) : Prop := match v with
  | .int x => Cond.constant own i x ∈ Ts
  | .long x => Cond.constantLong own i x ∈ Ts
  | .retAddr k => ∃ tx, vk_R own i tx (sa k) s
  | _ => False
section PMN
variable {p : Program} {l : Launch} {e : Env} {R : Room} {s : State} {m : MethodId} {args : Array Value} {below : List Frame} {meth : Method} {c : Code} {D : va_G} {n0 : Nat} {sa : Nat → Nat} {ck : Nat → ClassId} {nL mc ms : Nat} {al : Bool} {Q : pQ} {C : pC} {cc : ByteArray} {own : String} {Ts TW : List Cond} {G : State → Prop}
theorem pm_fresh {A : Nat → Prop} {S : pS} {q : Nat} {E : va_E} {H1 : Heap} {b : Nat} (hD : va_D (fun q => n0 ≤ q) (pm_w n0 sa ck S ++ [(q, E)])) (hP : va_P D vwCl (pm_w n0 sa ck S ++ [(q, E)]) H1) (hz : H1.size ≤ b) (hb : b = n0 + S.1 + 1) : q = n0 + S.1 := by
  have e0 : (pm_w n0 sa ck S ++ [(q, E)])[S.1]? = some (q, E) := by
    rw [List.getElem?_append_right (by rw [pm_w_len]; exact Nat.le_refl _), pm_w_len, Nat.sub_self]; rfl
  have h1 : n0 ≤ q := hD.2 S.1 _ e0
  have h2 : q < H1.size := (hP S.1 _ e0).lt
  by_cases h3 : q < n0 + S.1
  · have e1 : (pm_w n0 sa ck S ++ [(q, E)])[q - n0]? = some (n0 + (q - n0), pm_e n0 sa ck (S.2 (q - n0))) := by
      rw [List.getElem?_append_left (by rw [pm_w_len]; omega), pm_w_get (by omega)]
    have := hD.1 (q - n0) S.1 _ _ e1 e0 (by show n0 + (q - n0) = q; omega)
    omega
  · omega
theorem so_new {d : Nat} (B : pm_B p s m args meth c D ck n0 C cc nL own Ts G) (hC : pm_okC Ts) {aa : Bool} {nxe : Nat} (hal : aa = true → s.heap.size ≤ n0 + nxe) {pc tg : Nat} {ls : pL} {st : List Value} {uc us : Nat} {S : pS} {i ci : Nat} {fs : List Value} (hd : pm_okI cc pc (.new i) tg) (hN : pm_okN own Ts i ci fs)
    (h : uc + 1 ≤ mc ∧ us + fs.length ≤ ms ∧ (aa = true ∧ S.1 = nxe + uc) ∧ pm_X p l e (pm_R d mc ms) s m args below meth c D n0 sa ck nL mc ms al Q (pc + 3) ls (.ref S.1 :: st) (uc + 1) (us + fs.length) (S.1 + 1, va_up S.2 S.1 (.inr (ci, fs)))) : pm_X p l e (pm_R d mc ms) s m args below meth c D n0 sa ck nL mc ms al Q pc ls st uc us S := by
  intro lsA H locs hl hP hS
  obtain ⟨h1, h2, ⟨h3, h4⟩, h⟩ := h
  obtain ⟨C', T, N, hc, hcl, hins, hini', hlen, hdef, hmap⟩ := hN
  obtain ⟨hin, ty0, hty, hnm⟩ := hC _ _ _ _ hc
  obtain ⟨hx, hb, hml, hown, hts, hrt, hlocks, hex, hini, hK, hn0, hG⟩ := B
  have hsz := hal h3
  subst hlen
  refine va_new (D := D) (ci := ci) (fs := fs) (C := C') (T := T) (N := fs.length) hx hb hts hin ty0 hty hown (hts _ hcl) (hts _ hins) (hts _ hini') hK hP pm_w_D hS (fun q h => Nat.le_trans hn0 h) hc (fun j hj => hdef j hj _ (hty j hj)) h1 h2 (hd.d rfl) (fun q H1 hP1 hD1 hS1 => ?_)
  refine pm_size (fun hz => ?_)
  have hq : q = n0 + S.1 := pm_fresh (A := fun _ => True) hD1 hP1 (Nat.le_trans hz (Nat.add_le_add_right hsz _)) (by omega)
  subst hq
  have e2 : pm_w n0 sa ck S ++ [(n0 + S.1, .inr (ci, fs))] = pm_w n0 sa ck (S.1 + 1, va_up S.2 S.1 (.inr (ci, fs))) := by
    rw [← pm_w_push]
    show _ = pm_w n0 sa ck S ++ [(n0 + S.1, .inr (ci, fs.map (pm_v n0 sa)))]
    rw [hmap]
  rw [e2] at hP1
  exact h lsA H1 locs hl hP1 hS1
theorem so_newarray {d : Nat} (B : pm_B p s m args meth c D ck n0 C cc nL own Ts G) {aa : Bool} {nxe : Nat} (hal : aa = true → s.heap.size ≤ n0 + nxe) {pc tg : Nat} {ls : pL} {st : List Value} {uc us : Nat} {S : pS} {t : ClassFile.ArrayType} (hd : pm_okI cc pc (.newarray t) tg) (ha : Cond.arrayClass (newarray.typeOf t) ∈ Ts)
    (h : pm_o (pm_akd t) (fun kd => pm_i st (fun n r => ¬ n < 0 ∧ n.toNatClampNeg ≤ 65536 ∧ uc + 1 ≤ mc ∧ us + n.toNatClampNeg ≤ ms ∧ (aa = true ∧ S.1 = nxe + uc) ∧ pm_X p l e (pm_R d mc ms) s m args below meth c D n0 sa ck nL mc ms al Q (pc + 2) ls (.ref S.1 :: r) (uc + 1) (us + n.toNatClampNeg) (S.1 + 1, va_up S.2 S.1 (pm_na kd n.toNatClampNeg))))) : pm_X p l e (pm_R d mc ms) s m args below meth c D n0 sa ck nL mc ms al Q pc ls st uc us S := by
  intro lsA H locs hl hP hS
  obtain ⟨kd, hkd, h⟩ := pm_o_e h
  obtain ⟨n, r, rfl, hn, hN, h1, h2, ⟨h3, h4⟩, h9⟩ := pm_i_e h
  clear h
  have h := h9
  clear h9
  obtain ⟨hx, hb, hml, hown, hts, hrt, hlocks, hex, hini, hK, hn0, hG⟩ := B
  have hsz := hal h3
  have fin : ∀ (ty : FieldType) (a0 : vp_A) (kd : Nat), newarray.typeOf t = ty → (pm_tys ck)[kd]? = some (ck kd, ty) → (∀ cA cB, va_RA s cA ty → va_RA s cB ty → cA = cB) → (∀ cA : ClassId, vp_cell cA a0 = arrV cA n.toNatClampNeg (fun _ => defaultValue ty)) → componentBytes ty ≤ 8 → pm_e n0 sa ck (pm_na kd n.toNatClampNeg) = .inl (ck kd, a0) →
      pm_X p l e (pm_R d mc ms) s m args below meth c D n0 sa ck nL mc ms al Q (pc + 2) ls (.ref S.1 :: r) (uc + 1) (us + n.toNatClampNeg) (S.1 + 1, va_up S.2 S.1 (pm_na kd n.toNatClampNeg)) →
      W p l e (pm_R d mc ms) s m args below meth c H locs uc us (vx_MQ below (pm_Qc D n0 sa ck al Q) (pm_XC D n0 sa ck Q) args s mc ms (fun q => n0 ≤ q)) (F0 m pc lsA ((Value.int n :: r).map (pm_v n0 sa))) := by
    intro ty a0 kd h1' h2' h3' h4' h5' h6' h
    refine va_newa (D := D) hx hb (hts _ ha) h1' hK hP pm_w_D hS (fun q h => Nat.le_trans hn0 h) (n := n) (N' := n.toNatClampNeg) (a0 := a0) h4' hn rfl (Nat.le_trans (Nat.mul_le_mul hN h5') (by decide)) h1 h2 (hd.d rfl) (fun q cA H1 hK1 hP1 hD1 hS1 => ?_)
    have hcA : cA = ck kd := by
      have g1 := (hK.2 kd _ h2').2
      have g2 := (hK1.2 (pm_tys ck).length (cA, ty) (by rw [List.getElem?_append_right (Nat.le_refl _), Nat.sub_self]; rfl)).2
      exact h3' _ _ g2 g1
    subst hcA
    refine pm_size (fun hz => ?_)
    have hq : q = n0 + S.1 := pm_fresh (A := fun _ => True) hD1 hP1 (Nat.le_trans hz (Nat.add_le_add_right hsz _)) (by omega)
    subst hq
    rw [← h6', pm_w_push] at hP1
    exact h lsA H1 locs hl hP1 hS1
  cases t <;> simp only [pm_akd, Option.some.injEq, reduceCtorEq] at hkd
  · subst hkd
    exact fin .boolean (n.toNatClampNeg, .inl (fun _ => 0)) 3 rfl rfl (fun cA cB g1 g2 => Option.some.inj (g1.symm.trans g2)) (fun _ => rfl) (by decide) rfl h
  · subst hkd
    exact fin .char (n.toNatClampNeg, .inl (fun _ => 0)) 2 rfl rfl (fun cA cB g1 g2 => Option.some.inj (g1.symm.trans g2)) (fun _ => rfl) (by decide) rfl h
  · subst hkd
    exact fin .int (n.toNatClampNeg, .inl (fun _ => 0)) 0 rfl rfl (fun cA cB g1 g2 => Option.some.inj (g1.symm.trans g2)) (fun _ => rfl) (by decide) rfl h
  · subst hkd
    exact fin .long (n.toNatClampNeg, .inr (.inl (fun _ => 0))) 1 rfl rfl (fun cA cB g1 g2 => Option.some.inj (g1.symm.trans g2)) (fun _ => rfl) (by decide) rfl h
theorem so_ldc (B : pm_B p s m args meth c D ck n0 C cc nL own Ts G) {pc tg : Nat} {ls : pL} {st : List Value} {uc us : Nat} {S : pS} {i : Nat} (hd : pm_okI cc pc (.ldc i) tg) {o : Option Value} (hk : ∀ v, o = some v → pm_okK own Ts sa s i v) (h : pm_ki o (fun v => pm_X p l e R s m args below meth c D n0 sa ck nL mc ms al Q (pc + 2) ls (v :: st) uc us S)) : pm_X p l e R s m args below meth c D n0 sa ck nL mc ms al Q pc ls st uc us S := by
  intro lsA H locs hl hP hS
  obtain ⟨hx, hb, hml, hown, hts, hrt, hlocks, hex, hini, hK, hn0, hG⟩ := B
  rcases pm_ki_e h with ⟨x, h1, h⟩ | ⟨x, h1, h⟩
  · exact lv_ldc hx hb hown (hts _ (hk _ h1)) (hd.d rfl) (h lsA H locs hl hP hS)
  · obtain ⟨tx, hr⟩ := hk _ h1
    exact va_ldcS hx hb hown hr (hd.d rfl) (h lsA H locs hl hP hS)
theorem so_ldc_w (B : pm_B p s m args meth c D ck n0 C cc nL own Ts G) {pc tg : Nat} {ls : pL} {st : List Value} {uc us : Nat} {S : pS} {i : Nat} (hd : pm_okI cc pc (.ldc_w i) tg) {o : Option Value} (hk : ∀ v, o = some v → pm_okK own Ts sa s i v) (hni : ∀ k, o ≠ some (.retAddr k)) (h : pm_ki o (fun v => pm_X p l e R s m args below meth c D n0 sa ck nL mc ms al Q (pc + 3) ls (v :: st) uc us S)) : pm_X p l e R s m args below meth c D n0 sa ck nL mc ms al Q pc ls st uc us S := by
  intro lsA H locs hl hP hS
  obtain ⟨hx, hb, hml, hown, hts, hrt, hlocks, hex, hini, hK, hn0, hG⟩ := B
  rcases pm_ki_e h with ⟨x, h1, h⟩ | ⟨x, h1, h⟩
  · exact lv_ldcw hx hb hown (hts _ (hk _ h1)) (hd.d rfl) (h lsA H locs hl hP hS)
  · exact (hni _ h1).elim
theorem so_ldc2_w (B : pm_B p s m args meth c D ck n0 C cc nL own Ts G) {pc tg : Nat} {ls : pL} {st : List Value} {uc us : Nat} {S : pS} {i : Nat} (hd : pm_okI cc pc (.ldc2_w i) tg) {o : Option Value} (hk : ∀ v, o = some v → pm_okK own Ts sa s i v) (h : pm_kl o (fun v => pm_X p l e R s m args below meth c D n0 sa ck nL mc ms al Q (pc + 3) ls (.long v :: st) uc us S)) : pm_X p l e R s m args below meth c D n0 sa ck nL mc ms al Q pc ls st uc us S := by
  intro lsA H locs hl hP hS
  obtain ⟨hx, hb, hml, hown, hts, hrt, hlocks, hex, hini, hK, hn0, hG⟩ := B
  obtain ⟨x, h1, h⟩ := pm_kl_e h
  exact lv_ldc2 hx hb hown (hts _ (hk _ h1)) (hd.d rfl) (h lsA H locs hl hP hS)
theorem so_cpy {e0 : Env} {d : Nat} (B : pm_B p s m args meth c D ck n0 C cc nL own Ts G) (hT : pm_TW TW Ts) {pc tg : Nat} {ls : pL} {st : List Value} {uc us : Nat} {S : pS} {i : Nat} (hd : pm_okI cc pc (.invokestatic i) tg) (hlk : Cond.methodLink own i arraycopyName ∈ TW) (hna : Cond.native arraycopyName ∈ TW) (hst : Cond.static arraycopyName ∈ TW) (hin : Cond.initialized "java/lang/System" ∈ TW)
    (h : 3 ≤ d ∧ pm_cpy S st (fun b e r => r.length ≤ 4 ∧ pm_X p l e0 (pm_R d mc ms) s m args below meth c D n0 sa ck nL mc ms al Q (pc + 3) ls r uc us (pm_up S b e))) : pm_X p l e0 (pm_R d mc ms) s m args below meth c D n0 sa ck nL mc ms al Q pc ls st uc us S := by
  intro lsA H locs hl hP hS
  obtain ⟨hd3, h⟩ := h
  unfold pm_cpy at h
  split at h
  · rename_i n dp b sp a r
    obtain ⟨ha, na, g, hg, h⟩ := pm_ar_e h
    obtain ⟨hb', nb, f, hf, h1, h2, h3, h4, h5, h6, h⟩ := pm_ar_e h
    obtain ⟨hx, hb, hml, hown, hts, hrt, hlocks, hex, hini, hK, hn0, hG⟩ := B
    refine va_copyi (c0 := ck 0) (c1 := ck 0) (n0 := na) (n1 := nb) (f := g) (g := f) (ty := .int) hx hb (by rw [hml]; exact hl.2.1.symm) hown (hts _ (hT.1 _ hlk)) (hts _ (hT.1 _ hna)) (hts _ (hT.1 _ hst)) (hts _ (hT.1 _ hin)) hK hP pm_w_D hS a b 0 0 (by rw [pm_w_get ha, hg]; rfl) (by rw [pm_w_get hb', hf]; rfl) rfl rfl rfl h1 h2 h3 h4 h5 (fun _ _ => rfl) (by show 1 ≤ d; omega) (by have := pm_rest4 (n0 := n0) (sa := sa) h6; show _ ≤ 40 * d + 6; have e9 : nativeFrameWords "java/lang/System" "arraycopy" 5 = 7 := (by decide); rw [e9]; omega) (hd.d rfl) (fun H1 locs1 hP1 _ hS1 => ?_)
    exact h lsA H1 locs1 hl ((pm_w_set (n0 := n0) (sa := sa) (ck := ck) (S := S) (i := b) (.inl (0, nb, .inl (va_cpy g f sp.toNatClampNeg dp.toNatClampNeg n.toNatClampNeg)))) ▸ hP1) hS1
  · exact h.elim
theorem so_max {d : Nat} (B : pm_B p s m args meth c D ck n0 C cc nL own Ts G) (hT : pm_TW TW Ts) {pc tg : Nat} {ls : pL} {st : List Value} {uc us : Nat} {S : pS} {i : Nat} (hu : uc ≤ mc ∧ us ≤ ms) (hd : pm_okI cc pc (.invokestatic i) tg) (hlk : Cond.methodLink own i Lib.Math.max.name ∈ TW) (hst : Cond.static Lib.Math.max.name ∈ TW) (hin : Cond.initialized "java/lang/Math" ∈ TW) (hco : Cond.code Lib.Math.max.name Lib.Math.max.code 2 (some .int) ∈ TW)
    (h : 2 ≤ d ∧ pm_ii st (fun x y r => r.length ≤ 4 ∧ pm_X p l e (pm_R d mc ms) s m args below meth c D n0 sa ck nL mc ms al Q (pc + 3) ls (.int (if x < y then y else x) :: r) uc us S)) : pm_X p l e (pm_R d mc ms) s m args below meth c D n0 sa ck nL mc ms al Q pc ls st uc us S := by
  intro lsA H locs hl hP hS
  obtain ⟨hd2, h⟩ := h
  obtain ⟨x, y, r, rfl, h6, h⟩ := pm_ii_e h
  obtain ⟨hx, hb, hml, hown, hts, hrt, hlocks, hex, hini, hK, hn0, hG⟩ := B
  exact va_mmax hx hb (by rw [hml]; exact hl.2.1.symm) hown (hts _ (hT.1 _ hlk)) (hts _ (hT.1 _ hst)) (hts _ (hT.1 _ hin)) (hts _ (hT.1 _ hco)) (by show 1 ≤ d; omega) (by have := pm_rest4 (n0 := n0) (sa := sa) h6; show _ ≤ 40 * d + 6; omega) hu.1 hu.2 (hd.d rfl) (h lsA H locs hl hP hS)
theorem so_min {d : Nat} (B : pm_B p s m args meth c D ck n0 C cc nL own Ts G) (hT : pm_TW TW Ts) {pc tg : Nat} {ls : pL} {st : List Value} {uc us : Nat} {S : pS} {i : Nat} (hu : uc ≤ mc ∧ us ≤ ms) (hd : pm_okI cc pc (.invokestatic i) tg) (hlk : Cond.methodLink own i Lib.Math.min.name ∈ TW) (hst : Cond.static Lib.Math.min.name ∈ TW) (hin : Cond.initialized "java/lang/Math" ∈ TW) (hco : Cond.code Lib.Math.min.name Lib.Math.min.code 2 (some .int) ∈ TW)
    (h : 2 ≤ d ∧ pm_ii st (fun x y r => r.length ≤ 4 ∧ pm_X p l e (pm_R d mc ms) s m args below meth c D n0 sa ck nL mc ms al Q (pc + 3) ls (.int (if y < x then y else x) :: r) uc us S)) : pm_X p l e (pm_R d mc ms) s m args below meth c D n0 sa ck nL mc ms al Q pc ls st uc us S := by
  intro lsA H locs hl hP hS
  obtain ⟨hd2, h⟩ := h
  obtain ⟨x, y, r, rfl, h6, h⟩ := pm_ii_e h
  obtain ⟨hx, hb, hml, hown, hts, hrt, hlocks, hex, hini, hK, hn0, hG⟩ := B
  exact va_mmin hx hb (by rw [hml]; exact hl.2.1.symm) hown (hts _ (hT.1 _ hlk)) (hts _ (hT.1 _ hst)) (hts _ (hT.1 _ hin)) (hts _ (hT.1 _ hco)) (by show 1 ≤ d; omega) (by have := pm_rest4 (n0 := n0) (sa := sa) h6; show _ ≤ 40 * d + 6; omega) hu.1 hu.2 (hd.d rfl) (h lsA H locs hl hP hS)
/-- a throw: new, dup, ldc, invokespecial, athrow -/
def pm_okX (l : Launch) (cc : ByteArray) (own : String) (n0 : Nat) (s : State) (args : Array Value) (pc : Nat) (E : String) : Prop := ∃ (text : String) (names : List String) (ik is ic a ix : Nat) (rx : ByteArray), l.stackTraces = false ∧ (decode rx 0 = .ok (.aload_n 0, 1) ∧ decode rx 1 = .ok (.aload_n 1, 1) ∧ decode rx 2 = .ok (.invokespecial ix, 3) ∧ decode rx 5 = .ok (.return_, 1)) ∧ Bundle.fit E = true ∧ (∀ n ∈ names, Bundle.fit n = true) ∧ names.length ≤ 3 ∧ (Cond.classLink own ik E).before args s = true ∧ (Cond.initialized E).before args s = true ∧ vk_R own is text a s ∧ (∀ w ∈ xn_at own ic E ix rx names, w.before args s = true) ∧ (∀ w ∈ Cond.classLink own ik E :: Cond.initialized E :: xn_at own ic E ix rx names, vx_ot w = true) ∧
  vx_Zq Bundle.tN "UNASSIGNED_STACK" Bundle.steD (fun q => n0 ≤ q) s s.heap ∧ vx_Zq Bundle.tN "SUPPRESSED_SENTINEL" Bundle.listD (fun q => n0 ≤ q) s s.heap ∧
  decode cc pc = .ok (.new ik, 3) ∧ decode cc (pc + 3) = .ok (.dup, 1) ∧ ((decode cc (pc + 4) = .ok (.ldc is, 2) ∧ decode cc (pc + 6) = .ok (.invokespecial ic, 3) ∧ decode cc (pc + 9) = .ok (.athrow, 1)) ∨ (decode cc (pc + 4) = .ok (.ldc_w is, 3) ∧ decode cc (pc + 7) = .ok (.invokespecial ic, 3) ∧ decode cc (pc + 10) = .ok (.athrow, 1)))
theorem so_throw {d : Nat} (B : pm_B p s m args meth c D ck n0 C cc nL own Ts G) {pc : Nat} {ls : pL} {st : List Value} {uc us : Nat} {S : pS} {E : String} (hth : pc_th C pc = some E) (hX : pm_okX l cc own n0 s args pc E)
    (h : 7 ≤ d ∧ st.length ≤ 4 ∧ uc + 1 ≤ mc ∧ us + 6 ≤ ms ∧ Q (.inr E) S) : pm_X p l e (pm_R d mc ms) s m args below meth c D n0 sa ck nL mc ms al Q pc ls st uc us S := by
  intro lsA H locs hl hP hS
  obtain ⟨h1, h2, h3, h4, h⟩ := h
  obtain ⟨text, names, ik, is, ic, a, ix, rx, x1, ⟨r0, r1, r2, r5⟩, x2, x3, x4, x5, x6, x7, x8, x9, x10, x11, d0, d3, dd⟩ := hX
  obtain ⟨hx, hb, hml, hown, hts, hrt, hlocks, hex, hini, hK, hn0, hG⟩ := B
  have hr4 := pm_rest4 (n0 := n0) (sa := sa) h2
  have hx9 : ∀ t : State, s.vm.Alike t.vm → H.size ≤ t.heap.size → (∀ q : Nat, q < H.size → t.heap[q]? = H[q]?) → pm_XC D n0 sa ck Q E s t := by
    intro t ht1 ht2 ht3
    refine ⟨⟨S, h, hP.kept (fun k q hk => ht3 _ (hP k q hk).lt)⟩, Nat.le_trans hS.1 ht2, fun q hq hn => ?_⟩
    rw [ht3 q (Nat.lt_of_lt_of_le hq hS.1)]
    exact hS.2.1 q hq hn
  rcases dd with ⟨d4, d6, d9⟩ | ⟨d4, d7, d10⟩
  · exact xn_throwS (names := names) hx hb x1 r0 r1 r2 r5 hown x2 x3 x5 x6 x7 x8 x9 x10 x11 hS (by rw [hml]; exact hl.2.1) d0 d3 d4 d6 d9 (fun x hx => (hex.2 pc E hth x hx).elim) (by show names.length + 3 < d; omega) (by show _ ≤ 40 * d + 6; omega) h3 h4 hlocks hx9 hS.2.2 h3 h4
  · exact xn_throwSW (names := names) hx hb x1 r0 r1 r2 r5 hown x2 x3 x5 x6 x7 x8 x9 x10 x11 hS (by rw [hml]; exact hl.2.1) d0 d3 d4 d7 d10 (fun x hx => (hex.2 pc E hth x hx).elim) (by show names.length + 3 < d; omega) (by show _ ≤ 40 * d + 6; omega) h3 h4 hlocks hx9 hS.2.2 h3 h4
end PMN
