def pm_R (d mc ms : Nat) : Room := { frames := d, cells := mc, slots := ms, locals := 40 * d + 6 }
def pm_Pc (D : va_G) (n0 : Nat) (sa : Nat → Nat) (ck : Nat → ClassId) (G : State → Prop) (as : List Value) (S : pS) (al : Bool) : Array Value → State → Prop := va_Pc (as.map (pm_v n0 sa)) (fun U => n0 ≤ U.heap.size ∧ (al = true → U.heap.size ≤ n0 + S.1) ∧ va_P D vwCl (pm_w n0 sa ck S) U.heap ∧ va_K D vwCl (pm_tys ck) U ∧ G U)
/-- methods by their numbers: name, code, locals, the answer's type -/
abbrev pY : Type := Nat → MethodName × ByteArray × Nat × Option FieldType
def pm_hw (Y : pY) (j : Nat) : Cond := match pm_hh j with
  | [] => Cond.code (Y j).1 (Y j).2.1 (Y j).2.2.1 (Y j).2.2.2
  | h => Cond.codeWith (Y j).1 (Y j).2.1 (Y j).2.2.1 (Y j).2.2.2 h
def pm_ws (Y : pY) (TW : List Cond) (j : Nat) : List Cond := pm_hw Y j :: TW
theorem pm_ws0 {Y : pY} {TW : List Cond} {j : Nat} (h : pm_hh j = []) : pm_ws Y TW j = Cond.code (Y j).1 (Y j).2.1 (Y j).2.2.1 (Y j).2.2.2 :: TW := by
  unfold pm_ws pm_hw
  rw [h]
theorem pm_ws1 {Y : pY} {TW : List Cond} {j : Nat} (h : pm_hh j ≠ []) : pm_ws Y TW j = Cond.codeWith (Y j).1 (Y j).2.1 (Y j).2.2.1 (Y j).2.2.2 (pm_hh j) :: TW := by
  unfold pm_ws pm_hw
  cases hh : pm_hh j with
  | nil => exact (h hh).elim
  | cons q r => rfl
def pm_Met (l : Launch) (D : va_G) (n0 : Nat) (sa : Nat → Nat) (ck : Nat → ClassId) (G : State → Prop) (TW : List Cond) (Y : pY) (cost : Nat → Nat × Nat × Bool × Bool) (d j : Nat) (as : List Value) (S : pS) (Q : pQ) : Prop :=
  vx_Met l (Y j).1 (pm_ws Y TW j) (pm_R d (cost j).1 (cost j).2.1) (pm_Pc D n0 sa ck G as S (cost j).2.2.1) (pm_Qc D n0 sa ck (cost j).2.2.2 Q) (pm_XC D n0 sa ck Q) (cost j).1 (cost j).2.1 (fun q => n0 ≤ q)
/-- the ground stays -/
def pm_Gm (n0 : Nat) (G : State → Prop) : Prop := ∀ u U : State, u.WarmedH U.vm → (∀ q, q < u.heap.size → ¬ n0 ≤ q → U.heap[q]? = u.heap[q]?) → G u → G U
def pm_TW (TW Ts : List Cond) : Prop := (∀ w ∈ TW, w ∈ Ts) ∧ ∀ w ∈ TW, (w.onTables && w.keeps) = true ∨ ∃ ty, w = .arrayClass ty
/-- what a method's name must be, and its number of arguments -/
def pm_okY (Y : pY) (TW : List Cond) (j n : Nat) : Prop := pm_hw Y j ∈ TW ∧ (Y j).2.2.1 ≤ 21 ∧ (Y j).1.cls ≠ "java/lang/invoke/MethodHandle" ∧ (Y j).1.cls ≠ "java/lang/invoke/VarHandle" ∧ (parseMethodDescriptor (Y j).1.desc).map (fun d => d.parameters.length) = some n ∧ Cond.initialized (Y j).1.cls ∈ TW
section PMC
variable {p : Program} {l : Launch} {e : Env} {R : Room} {s : State} {m : MethodId} {args : Array Value} {below : List Frame} {meth : Method} {c : Code} {D : va_G} {n0 : Nat} {sa : Nat → Nat} {ck : Nat → ClassId} {nL mc ms : Nat} {al : Bool} {Q : pQ} {C : pC} {cc : ByteArray} {own : String} {Ts TW : List Cond} {G : State → Prop} {Y : pY} {cost : Nat → Nat × Nat × Bool × Bool}
theorem pm_size {H : Heap} {locs : List Loc} {cells slots : Nat} {Qf : State → Prop} {g : JFrame} (k : H.size ≤ s.heap.size + cells → W p l e R s m args below meth c H locs cells slots Qf g) : W p l e R s m args below meth c H locs cells slots Qf g := fun T hT X => k (by rw [← hT]; exact X.heapSize) T hT X
theorem pm_Pc_blind (hGm : pm_Gm n0 G) {as : List Value} {S : pS} {al : Bool} : FrameBlind (pm_Pc D n0 sa ck G as S al) := by
  rintro a U g mk ⟨h0, h1, h2, h3, h4, h5⟩
  exact ⟨h0, h1, h2, h3, va_K.moved (u := U) (U := U.calling g mk a) (Vm.Alike.refl U.vm) h4, hGm U (U.calling g mk a) (State.WarmedH.refl U) (fun _ _ _ => rfl) h5⟩
theorem pm_Pc_at (hGm : pm_Gm n0 G) (hn0 : n0 ≤ s.heap.size) (hK : va_K D vwCl (pm_tys ck) s) (hG : G s) {as : List Value} {S : pS} {al : Bool} {H : Heap} {locs : List Loc} (hP : va_P D vwCl (pm_w n0 sa ck S) H) (hS : va_S (fun q => n0 ≤ q) s.heap H locs) (hal : al = true → H.size ≤ n0 + S.1) : ∀ U : State, U.heap = H → s.WarmedH U.vm → pm_Pc D n0 sa ck G as S al (as.map (pm_v n0 sa)).toArray U := by
  intro U hU hW
  refine ⟨rfl, ?_, ?_, ?_, va_K.moved hW.alike hK, hGm s U hW (fun q h1 h2 => by rw [hU]; exact hS.2.1 q h1 h2) hG⟩
  · rw [hU]; exact Nat.le_trans hn0 hS.1
  · rw [hU]; exact hal
  · rw [hU]; exact hP
theorem pm_narrow {T T' : State} {locs L : List Loc} {cells slots mc' ms' : Nat} (X : Stand p l e R s m args below meth c T locs cells slots) (X' : Stand p l e R s m args below meth c T' (locs ++ L) (cells + mc') (slots + ms')) (h : pm_same T T') : Stand p l e R s m args below meth c T' (locs ++ L) cells slots := by
  obtain ⟨h1, h2⟩ := h
  have hlen : T'.heap.size ≤ s.heap.size + cells := by rw [h1]; exact X.heapSize
  have e5 : (T'.heap.toList.drop s.heap.size).map (·.slots.size) = (T.heap.toList.drop s.heap.size).map (·.slots.size) := by
    apply List.ext_getElem?
    intro i
    rw [List.getElem?_map, List.getElem?_map, List.getElem?_drop, List.getElem?_drop, Array.getElem?_toList, Array.getElem?_toList]
    cases hc : T.heap[s.heap.size + i]? with
    | none =>
      have hge : T.heap.size ≤ s.heap.size + i := Array.getElem?_eq_none_iff.mp hc
      rw [Array.getElem?_eq_none_iff.mpr (show T'.heap.size ≤ s.heap.size + i by rw [h1]; exact hge)]
    | some c0 =>
      obtain ⟨c', e1, e2⟩ := h2 _ _ hc
      rw [e1]
      simp [e2]
  have s5 : ((T'.heap.toList.drop s.heap.size).map (·.slots.size)).sum ≤ slots := by rw [e5]; exact X.same.2.2.2.2.1
  exact { X' with same := ⟨X'.same.1, X'.same.2.1, hlen, X'.same.2.2.2.1, s5, X'.same.2.2.2.2.2⟩ }
theorem pm_back {H : Heap} {locs : List Loc} {uc us mc' ms' pc : Nat} {al' : Bool} {lsA : Array Slot} {st0 rest : List Value} {a : Array Value} {Qf : State → Prop} {Q1 : pQ} (hr : vx_Run p l e R s m args below meth c H locs uc us mc' ms' (F0 m pc lsA st0) rest (pm_Qc D n0 sa ck al' Q1 a) (pm_XC D n0 sa ck Q1) (fun q => n0 ≤ q)) (hS : va_S (fun q => n0 ≤ q) s.heap H locs)
    (kk : ∀ (v : Option Value) (S1 : pS) (H1 : Heap) (locs1 : List Loc), Q1 (.inl v) S1 → va_P D vwCl (pm_w n0 sa ck S1) H1 → va_S (fun q => n0 ≤ q) s.heap H1 locs1 → W p l e R s m args below meth c H1 locs1 (pm_nu al' uc mc') (pm_nu al' us ms') Qf (F0 m (pc + 3) lsA ((v.map (pm_v n0 sa)).toList ++ rest)))
    (kx : ∀ (E : String) (S1 : pS) (H1 : Heap) (locs1 : List Loc) (q : Addr) (ce : Cell), Q1 (.inr E) S1 → va_P D vwCl (pm_w n0 sa ck S1) H1 → va_S (fun q => n0 ≤ q) s.heap H1 locs1 → H1[q]? = some ce → ce.vm = .none → s.vm.findClass E = some ce.cls → vx_W p l e R s m args below meth c H1 locs1 (uc + mc') (us + ms') Qf (F0 m pc lsA rest) q) : W p l e R s m args below meth c H locs uc us Qf (F0 m pc lsA st0) := by
  intro T hT X
  rcases hr T hT X with ⟨v, st₀, t, T', L, h0, X', hL, e1, e2, ⟨hsm, ⟨w, S1, hv, hq, hp⟩, hF⟩, st⟩ | ⟨q, st₀, t, T', L, E, ce, h0, X', hL, e1, e2, ⟨⟨S1, hq, hp⟩, hF⟩, hce, hcv, hcl, st⟩
  · cases hv
    obtain ⟨k1, k2, k3⟩ := vx_keep (A0 := fun q => n0 ≤ q) h0 e1 hS (fun q _ h => h) (fun q h => h) hL hF
    have X2 : Stand p l e R s m args below meth c T' (locs ++ L) (pm_nu al' uc mc') (pm_nu al' us ms') := by
      cases al' with
      | true => exact X'
      | false =>
        obtain ⟨g1, g2⟩ := hsm rfl
        refine pm_narrow X X' ⟨by rw [e1, g1, h0, hT], fun a c0 hc => ?_⟩
        obtain ⟨c', z1, z2⟩ := g2 a c0 (by rw [h0, ← hT]; exact hc)
        exact ⟨c', by rw [e1]; exact z1, z2⟩
    obtain ⟨t2, a1, b1⟩ := kk w S1 T'.heap (locs ++ L) hq (by rw [e1]; exact hp) k3 T' rfl X2
    exact ⟨t2, st t2 a1, b1⟩
  · obtain ⟨k1, k2, k3⟩ := vx_keep (A0 := fun q => n0 ≤ q) h0 e1 hS (fun q _ h => h) (fun q h => h) hL hF
    obtain ⟨t2, a1, b1⟩ := kx E S1 T'.heap (locs ++ L) q ce hq (by rw [e1]; exact hp) k3 (by rw [e1]; exact hce) hcv hcl T' rfl X'
    exact ⟨t2, st.trans a1, b1⟩
theorem pm_good (hT : pm_TW TW Ts) {j n : Nat} (hY : pm_okY Y TW j n) : GoodIn Ts (pm_ws Y TW j) := by
  intro w hw
  rcases List.mem_cons.mp hw with rfl | h
  · exact ⟨hT.1 _ hY.1, hT.2 _ hY.1⟩
  · exact ⟨hT.1 _ h, hT.2 _ h⟩
theorem pm_cb {d : Nat} (B : pm_B p s m args meth c D ck n0 C cc nL own Ts G) (hT : pm_TW TW Ts) {j n : Nat} (hY : pm_okY Y TW j n) (hh : pm_hh j = []) {i : Nat} (hl : Cond.methodLink own i (Y j).1 ∈ TW) : CallB (pm_R (d + 1) mc ms) s args own i (Y j).1 (Y j).2.1 (Y j).2.2.1 (Y j).2.2.2 (pm_ws Y TW j) (pm_R d (cost j).1 (cost j).2.1) (cost j).1 (cost j).2.1 n :=
  callB_of n B.2.2.2.2.1 (pm_good hT hY) (pm_ws0 hh) rfl rfl (B.2.2.2.2.1 _ (hT.1 _ hY.2.2.2.2.2)) (B.2.2.2.2.1 _ (hT.1 _ hl)) ⟨hY.2.2.1, hY.2.2.2.1, hY.2.2.2.2.1⟩ ⟨Nat.le_refl _, by have := hY.2.1; show 8 + ((Y j).2.2.1 + 11) + (40 * d + 6) ≤ 40 * (d + 1) + 6; omega⟩
theorem pm_rest4 {r : List Value} (h : r.length ≤ 4) : ((r.map (pm_v n0 sa)).map fun v => v.category).sum ≤ 8 := by
  have hc : ∀ v : Value, v.category ≤ 2 := fun v => by cases v <;> simp [Value.category]
  match r, h with
  | [], _ => simp
  | [a], _ => have := hc (pm_v n0 sa a); simp; omega
  | [a, b], _ => have := hc (pm_v n0 sa a); have := hc (pm_v n0 sa b); simp; omega
  | [a, b, c], _ => have := hc (pm_v n0 sa a); have := hc (pm_v n0 sa b); have := hc (pm_v n0 sa c); simp; omega
  | [a, b, c, d], _ => have := hc (pm_v n0 sa a); have := hc (pm_v n0 sa b); have := hc (pm_v n0 sa c); have := hc (pm_v n0 sa d); simp; omega
theorem pm_nu_le {b : Bool} {u x y : Nat} (h : u + x ≤ y) : pm_nu b u x ≤ y := by
  cases b
  · exact Nat.le_trans (Nat.le_add_right u x) h
  · exact h
/-- behind a call that the pure machine has made -/
theorem pm_aft {R : Room} {ak : Bool × Bool} (B : pm_B p s m args meth c D ck n0 C cc nL own Ts G) {pc : Nat} {ls : pL} {j : Nat} {r : List Value} {uc us : Nat} {lsA : Array Slot} {H : Heap} {locs : List Loc} {st0 : List Value} {a : Array Value} {X : pF} {Q0 Q1 : pQ} (hQ1 : ∀ o S1, Q1 o S1 → pm_po C cost ak Q0 X pc ls j r uc us o S1) (hQ0 : ∀ o S1, Q0 o S1 → Q o S1) (hX : ∀ pc ls st uc us S, uc ≤ mc ∧ us ≤ ms → X pc ls st uc us S → pm_X p l e R s m args below meth c D n0 sa ck nL mc ms ak.2 Q pc ls st uc us S) (hl : pm_lr n0 sa lsA nL ls) (hS : va_S (fun q => n0 ≤ q) s.heap H locs) (hu : uc + (cost j).1 ≤ mc) (hv : us + (cost j).2.1 ≤ ms)
    (hr : vx_Run p l e R s m args below meth c H locs uc us (cost j).1 (cost j).2.1 (F0 m pc lsA st0) (r.map (pm_v n0 sa)) (pm_Qc D n0 sa ck (cost j).2.2.2 Q1 a) (pm_XC D n0 sa ck Q1) (fun q => n0 ≤ q)) : W p l e R s m args below meth c H locs uc us (vx_MQ below (pm_Qc D n0 sa ck ak.2 Q) (pm_XC D n0 sa ck Q) args s mc ms (fun q => n0 ≤ q)) (F0 m pc lsA st0) := by
  obtain ⟨hx, hb, hml, hown, hts, hrt, hlocks, ⟨hex, hex2⟩, hini, hK, hn0, hG⟩ := B
  refine pm_back hr hS (fun v S1 H1 locs1 hq hP1 hS1 => ?_) (fun E S1 H1 locs1 q ce hq hP1 hS1 h1 h2 h3 => ?_)
  · have := hX _ _ _ _ _ _ ⟨pm_nu_le hu, pm_nu_le hv⟩ (hQ1 _ S1 hq) lsA H1 locs1 hl hP1 hS1
    cases v with
    | none => exact this
    | some v => exact this
  · have hp := hQ1 _ S1 hq
    unfold pm_po at hp
    dsimp only at hp
    have he := hex pc E
    cases hh : pc_hd C pc E with
    | none => rw [hh] at hp; exact hp.elim
    | some o =>
      rw [hh] at hp he
      cases o with
      | none => exact vx_outP hown hlocks he h1 h2 h3 (fun t ht _ => ⟨⟨S1, hQ0 _ _ hp, by rw [ht]; exact hP1⟩, hS1.F ht⟩) hS1.2.2 hu hv
      | some x =>
        obtain ⟨hk2, hri, hp⟩ := hp
        obtain ⟨pre, z0, suf, name, k, len, n, t1, t2, t3, t4, t5, t6, t7, t8, t9, t10, t11⟩ := he
        refine vx_catch hown pre z0 suf t1 t2 t3 t4 t5 t6 h1 h2 h3 ?_
        have fin : ∀ ls' : Array Slot, W p l e R s m args below meth c H1 locs1 (uc + (cost j).1) (us + (cost j).2.1) (vx_MQ below (pm_Qc D n0 sa ck ak.2 Q) (pm_XC D n0 sa ck Q) args s mc ms (fun q => n0 ≤ q)) (F0 m (z0.handlerPc + len) ls' []) := by
          intro ls'
          refine lv_iconst hx hb t9 t10 ?_
          refine W.widen (k := mc) (n := ms) hu hv (vx_ret ?_)
          exact W.iret (v := x) hx hb (hrt.trans hri) (fun t ht hW => ⟨(fun q => by rw [hk2] at q; cases q), ⟨some (.int x), S1, rfl, hQ0 _ _ hp, by rw [ht]; exact hP1⟩, hS1.F ht⟩) hS1.2.2 t11 hlocks
        rcases t8 with ⟨k', e1, e2, e3⟩ | ⟨e2, e3⟩
        · subst e2
          exact lv_astore_n hx hb e3 e1 (pm_lr_has hl) t7 rfl (fun ls' _ => fin ls')
        · subst e2
          exact lv_astore hx hb e3 (pm_lr_has hl) t7 rfl (fun ls' _ => fin ls')
theorem so_static {d : Nat} (B : pm_B p s m args meth c D ck n0 C cc nL own Ts G) (hT : pm_TW TW Ts) (hGm : pm_Gm n0 G) {call : pCall} (hcall : ∀ j as S Q, call j as S Q → pm_Met l D n0 sa ck G TW Y cost d j as S Q) {ak : Bool × Bool} {nxe : Nat} (hal : ak.1 = true → s.heap.size ≤ n0 + nxe) {X : pF} (hX : ∀ pc ls st uc us S, uc ≤ mc ∧ us ≤ ms → X pc ls st uc us S → pm_X p l e (pm_R (d + 1) mc ms) s m args below meth c D n0 sa ck nL mc ms ak.2 Q pc ls st uc us S)
    {pc tg : Nat} {ls : pL} {st : List Value} {uc us : Nat} {S : pS} {i j n : Nat} (hd : pm_okI cc pc (.invokestatic i) tg) (hY : pm_okY Y TW j n) (hh : pm_hh j = []) (hlk : Cond.methodLink own i (Y j).1 ∈ TW) (hst : Cond.static (Y j).1 ∈ TW)
    (h : pm_ar1 st n (fun as r => pm_inv C call cost ak nxe mc ms Q X pc ls j as r uc us S)) : pm_X p l e (pm_R (d + 1) mc ms) s m args below meth c D n0 sa ck nL mc ms ak.2 Q pc ls st uc us S := by
  intro lsA H locs hl hP hS
  obtain ⟨hn, h4, h5, h6, h7, h8⟩ := h
  have B' := B
  obtain ⟨hx, hb, hml, hown, hts, hrt, hlocks, hex, hini, hK, hn0, hG⟩ := B
  refine pm_size (fun hz => ?_)
  refine pm_aft (Q1 := pm_po C cost ak Q X pc ls j (st.drop n) uc us) (r := st.drop n) (a := ((st.take n).reverse.map (pm_v n0 sa)).toArray) B' (fun _ _ h => h) (fun _ _ h => h) hX hl hS h5 h6 ?_
  exact vx_runS (As := (st.take n).reverse.map (pm_v n0 sa)) (Ts := Ts) ⟨hx, hb, hml, hown, hts⟩ (hcall _ _ _ _ h8) ⟨pm_cb B' hT hY hh hlk, hts _ (hT.1 _ hst)⟩ ⟨pm_Pc_blind hGm, pm_Pc_at hGm hn0 hK hG hP hS (fun q => by obtain ⟨q1, q2⟩ := h7 q; have := hal q1; omega)⟩ rfl (by simp; omega) hl.2.1
    (by show st.map (pm_v n0 sa) = _; rw [← List.map_reverse, List.reverse_reverse, ← List.map_append, List.take_append_drop]) (by simpa [F0, JFrame.monitorRoom] using pm_rest4 h4) (hd.d rfl) ⟨h5, h6⟩
theorem so_virtual {d : Nat} (B : pm_B p s m args meth c D ck n0 C cc nL own Ts G) (hT : pm_TW TW Ts) (hGm : pm_Gm n0 G) {call : pCall} (hcall : ∀ j as S Q, call j as S Q → pm_Met l D n0 sa ck G TW Y cost d j as S Q) {ak : Bool × Bool} {nxe : Nat} (hal : ak.1 = true → s.heap.size ≤ n0 + nxe) {X : pF} (hX : ∀ pc ls st uc us S, uc ≤ mc ∧ us ≤ ms → X pc ls st uc us S → pm_X p l e (pm_R (d + 1) mc ms) s m args below meth c D n0 sa ck nL mc ms ak.2 Q pc ls st uc us S)
    {pc tg : Nat} {ls : pL} {st : List Value} {uc us : Nat} {S : pS} {i j n ci : Nat} {T : u_T} {N : Nat} (hd : pm_okI cc pc (.invokevirtual i) tg) (hY : pm_okY Y TW j n) (hh : pm_hh j = []) (hlk : Cond.methodLink own i (Y j).1 ∈ TW) (hin : Cond.instanceMethod (Y j).1 ∈ TW) (hse : Cond.selects (Y j).1.cls (Y j).1 (Y j).1 ∈ TW) (hci : vwCl[ci]? = some ((Y j).1.cls, T, N))
    (h : pm_ar1 st n (fun as r => pm_r r (fun b r => pm_ob S b ci (fun _ => True) ∧ pm_inv C call cost ak nxe mc ms Q X pc ls j (.ref b :: as) r uc us S))) : pm_X p l e (pm_R (d + 1) mc ms) s m args below meth c D n0 sa ck nL mc ms ak.2 Q pc ls st uc us S := by
  intro lsA H locs hl hP hS
  obtain ⟨hn, h⟩ := h
  obtain ⟨b, r, hr0, hob, h4, h5, h6, h7, h8⟩ := pm_r_e h
  clear h
  obtain ⟨hbl, fs, hfs, -⟩ := pm_ob_e hob
  have B' := B
  obtain ⟨hx, hb, hml, hown, hts, hrt, hlocks, hex, hini, hK, hn0, hG⟩ := B
  refine pm_size (fun hz => ?_)
  refine pm_aft (Q1 := pm_po C cost ak Q X pc ls j r uc us) (r := r) (a := ((.ref b :: (st.take n).reverse).map (pm_v n0 sa)).toArray) B' (fun _ _ h => h) (fun _ _ h => h) hX hl hS h5 h6 ?_
  exact vx_runV (C := (Y j).1.cls) (b := n0 + b) (As := (st.take n).reverse.map (pm_v n0 sa)) (Ts := Ts) ⟨hx, hb, hml, hown, hts⟩ (hcall _ _ _ _ h8) ⟨pm_cb B' hT hY hh hlk, hts _ (hT.1 _ hin), hts _ (hT.1 _ hse)⟩ ⟨pm_Pc_blind hGm, va_recv hK hP (ci := ci) (q0 := b) (fs := fs.map (pm_v n0 sa)) hci (by rw [pm_w_get hbl, hfs]; rfl), pm_Pc_at hGm hn0 hK hG hP hS (fun q => by obtain ⟨q1, q2⟩ := h7 q; have := hal q1; omega)⟩ rfl (by simp; omega) hl.2.1
    (by show st.map (pm_v n0 sa) = _; rw [← List.map_reverse, List.reverse_reverse]; show _ = List.map (pm_v n0 sa) (st.take n) ++ List.map (pm_v n0 sa) (.ref b :: r); rw [← hr0, ← List.map_append, List.take_append_drop]) (by simpa [F0, JFrame.monitorRoom] using pm_rest4 h4) (hd.d rfl) ⟨h5, h6⟩
/-- a call on a text -/
theorem so_text {d : Nat} (B : pm_B p s m args meth c D ck n0 C cc nL own Ts G) (hT : pm_TW TW Ts) (hGm : pm_Gm n0 G) {call : pCall} (hcall : ∀ j as S Q, call j as S Q → pm_Met l D n0 sa ck G TW Y cost d j as S Q) {ak : Bool × Bool} {nxe : Nat} (hal : ak.1 = true → s.heap.size ≤ n0 + nxe) {X : pF} (hX : ∀ pc ls st uc us S, uc ≤ mc ∧ us ≤ ms → X pc ls st uc us S → pm_X p l e (pm_R (d + 1) mc ms) s m args below meth c D n0 sa ck nL mc ms ak.2 Q pc ls st uc us S)
    {pc tg : Nat} {ls : pL} {st : List Value} {uc us : Nat} {S : pS} {i j n : Nat} (hd : pm_okI cc pc (.invokevirtual i) tg) (hY : pm_okY Y TW j n) (hh : pm_hh j = []) (hlk : Cond.methodLink own i (Y j).1 ∈ TW) (hin : Cond.instanceMethod (Y j).1 ∈ TW) (hse : Cond.selects (Y j).1.cls (Y j).1 (Y j).1 ∈ TW)
    (hrc : ∀ b H locs, b < 26 → va_S (fun q => n0 ≤ q) s.heap H locs → ∃ cell : Cell, H[sa b]? = some cell ∧ cell.vm.isStatics = false ∧ s.vm.findClass (Y j).1.cls = some cell.cls)
    (h : pm_ar1 st n (fun as r => pm_t r (fun b r => b < 26 ∧ pm_inv C call cost ak nxe mc ms Q X pc ls j (.retAddr b :: as) r uc us S))) : pm_X p l e (pm_R (d + 1) mc ms) s m args below meth c D n0 sa ck nL mc ms ak.2 Q pc ls st uc us S := by
  intro lsA H locs hl hP hS
  obtain ⟨hn, h⟩ := h
  obtain ⟨b, r, hr0, hb26, h4, h5, h6, h7, h8⟩ : ∃ b r, st.drop n = .retAddr b :: r ∧ b < 26 ∧ pm_inv C call cost ak nxe mc ms Q X pc ls j (.retAddr b :: (st.take n).reverse) r uc us S := by
    unfold pm_t at h; split at h
    · exact ⟨_, _, ‹_›, h⟩
    · exact h.elim
  clear h
  have B' := B
  obtain ⟨hx, hb, hml, hown, hts, hrt, hlocks, hex, hini, hK, hn0, hG⟩ := B
  refine pm_size (fun hz => ?_)
  refine pm_aft (Q1 := pm_po C cost ak Q X pc ls j r uc us) (r := r) (a := ((.retAddr b :: (st.take n).reverse).map (pm_v n0 sa)).toArray) B' (fun _ _ h => h) (fun _ _ h => h) hX hl hS h5 h6 ?_
  exact vx_runV (C := (Y j).1.cls) (b := sa b) (As := (st.take n).reverse.map (pm_v n0 sa)) (Ts := Ts) ⟨hx, hb, hml, hown, hts⟩ (hcall _ _ _ _ h8) ⟨pm_cb B' hT hY hh hlk, hts _ (hT.1 _ hin), hts _ (hT.1 _ hse)⟩ ⟨pm_Pc_blind hGm, hrc b H locs hb26 hS, pm_Pc_at hGm hn0 hK hG hP hS (fun q => by obtain ⟨q1, q2⟩ := h7 q; have := hal q1; omega)⟩ rfl (by simp; omega) hl.2.1
    (by show st.map (pm_v n0 sa) = _; rw [← List.map_reverse, List.reverse_reverse]; show _ = List.map (pm_v n0 sa) (st.take n) ++ List.map (pm_v n0 sa) (.retAddr b :: r); rw [← hr0, ← List.map_append, List.take_append_drop]) (by simpa [F0, JFrame.monitorRoom] using pm_rest4 h4) (hd.d rfl) ⟨h5, h6⟩
/-- a call that never throws, as the kit's other rows have it -/
theorem pm_calm {d j : Nat} {as : List Value} {S : pS} {Q1 : pQ} (h : pm_Met l D n0 sa ck G TW Y cost d j as S Q1) (hn : ∀ E S, ¬ Q1 (.inr E) S) : Met l (Y j).1 (pm_ws Y TW j) (pm_R d (cost j).1 (cost j).2.1) (pm_Pc D n0 sa ck G as S (cost j).2.2.1) (pm_Qc D n0 sa ck (cost j).2.2.2 Q1) (cost j).1 (cost j).2.1 (fun q => n0 ≤ q) := by
  intro p e h1 h2 h3 s m args below h4 h5 h6 h7
  obtain ⟨n, o, g1, g2, g3, g4⟩ := h p e h1 h2 h3 s m args below h4 h5 h6 h7
  refine ⟨n, o, g1, g2, g3, ?_⟩
  rcases g4 with g4 | ⟨q, -, E, ce, L, ⟨⟨S1, hq, -⟩, -⟩, -⟩
  · exact g4
  · exact (hn _ _ hq).elim
theorem so_init {d : Nat} (B : pm_B p s m args meth c D ck n0 C cc nL own Ts G) (hT : pm_TW TW Ts) (hGm : pm_Gm n0 G) {call : pCall} (hcall : ∀ j as S Q, call j as S Q → pm_Met l D n0 sa ck G TW Y cost d j as S Q) {ak : Bool × Bool} {nxe : Nat} (hal : ak.1 = true → s.heap.size ≤ n0 + nxe) {X : pF} (hX : ∀ pc ls st uc us S, uc ≤ mc ∧ us ≤ ms → X pc ls st uc us S → pm_X p l e (pm_R (d + 1) mc ms) s m args below meth c D n0 sa ck nL mc ms ak.2 Q pc ls st uc us S)
    {pc tg : Nat} {ls : pL} {st : List Value} {uc us : Nat} {S : pS} {i j n : Nat} {host : String} (hd : pm_okI cc pc (.invokespecial i) tg) (hY : pm_okY Y TW j n) (hh : pm_hh j = []) (hnm : (Y j).1.name = "<init>") (hrn : (Y j).2.2.2 = none) (hlk : va_Nw (.methodLinkNest own i (Y j).1 host) s) (hin : Cond.instanceMethod (Y j).1 ∈ TW)
    (h : pm_ar1 st n (fun as r => pm_r r (fun b r => pm_inv C call cost ak nxe mc ms (fun _ _ => False) X pc ls j (.ref b :: as) r uc us S))) : pm_X p l e (pm_R (d + 1) mc ms) s m args below meth c D n0 sa ck nL mc ms ak.2 Q pc ls st uc us S := by
  intro lsA H locs hl hP hS
  obtain ⟨hn, h⟩ := h
  obtain ⟨b, r, hr0, h4, h5, h6, h7, h8⟩ := pm_r_e h
  clear h
  have B' := B
  obtain ⟨hx, hb, hml, hown, hts, hrt, hlocks, hex, hini, hK, hn0, hG⟩ := B
  refine pm_size (fun hz => ?_)
  have hM := pm_calm (hcall _ _ _ _ h8) (fun E S h => by unfold pm_po at h; dsimp only at h; split at h <;> first | exact h | exact h.2.2)
  have hcn := va_cnB (args := args) (R := pm_R (d + 1) mc ms) (own := own) (host := host) (index := i) (ws := pm_ws Y TW j) (rm := pm_R d (cost j).1 (cost j).2.1) n hts (pm_good hT hY) (pm_ws0 hh) rfl rfl hlk (hts _ (hT.1 _ hY.2.2.2.2.2)) ⟨hY.2.2.1, hY.2.2.2.1, hY.2.2.2.2.1⟩ ⟨Nat.le_refl _, by have := hY.2.1; show 8 + ((Y j).2.2.1 + 11) + (40 * d + 6) ≤ 40 * (d + 1) + 6; omega⟩
  rw [hrn] at hcn
  have hr := va_runIN (b := n0 + b) (As := (st.take n).reverse.map (pm_v n0 sa)) (rest := r.map (pm_v n0 sa)) (Ts := Ts) (meth := meth) (below := below) (e := e) (locs := locs) (cells := uc) (slots := us) (g := F0 m pc lsA (st.map (pm_v n0 sa))) ⟨hx, hb, hml, hown, hts⟩ hM ⟨hcn, hnm, hts _ (hT.1 _ hin)⟩ ⟨pm_Pc_blind hGm, pm_Pc_at hGm hn0 hK hG hP hS (fun q => by obtain ⟨q1, q2⟩ := h7 q; have := hal q1; omega)⟩ rfl (by simp; omega) hl.2.1
    (by show st.map (pm_v n0 sa) = _; rw [← List.map_reverse, List.reverse_reverse]; show _ = List.map (pm_v n0 sa) (st.take n) ++ List.map (pm_v n0 sa) (.ref b :: r); rw [← hr0, ← List.map_append, List.take_append_drop]) (by simpa [F0, JFrame.monitorRoom] using pm_rest4 h4) (hd.d rfl) ⟨h5, h6⟩
  refine pm_aft (Q1 := pm_po C cost ak (fun _ _ => False) X pc ls j r uc us) (r := r) (a := ((.ref b :: (st.take n).reverse).map (pm_v n0 sa)).toArray) (R := pm_R (d + 1) mc ms) (Q0 := fun _ _ => False) B' (fun _ _ h => h) (fun _ _ h => False.elim h) hX hl hS h5 h6 ?_
  exact fun T hT0 X0 => Or.inl (hr T hT0 X0)
theorem so_init5 {d : Nat} (B : pm_B p s m args meth c D ck n0 C cc nL own Ts G) (hT : pm_TW TW Ts) (hGm : pm_Gm n0 G) {call : pCall} (hcall : ∀ j as S Q, call j as S Q → pm_Met l D n0 sa ck G TW Y cost d j as S Q) {ak : Bool × Bool} {nxe : Nat} (hal : ak.1 = true → s.heap.size ≤ n0 + nxe) {X : pF} (hX : ∀ pc ls st uc us S, uc ≤ mc ∧ us ≤ ms → X pc ls st uc us S → pm_X p l e (pm_R (d + 1) mc ms) s m args below meth c D n0 sa ck nL mc ms ak.2 Q pc ls st uc us S)
    {pc tg : Nat} {ls : pL} {st : List Value} {uc us : Nat} {S : pS} {i j n : Nat} (hd : pm_okI cc pc (.invokespecial i) tg) (hY : pm_okY Y TW j n) (hh : pm_hh j = []) (hnm : (Y j).1.name = "<init>") (hrn : (Y j).2.2.2 = none) (hlk : Cond.methodLink own i (Y j).1 ∈ TW) (hin : Cond.instanceMethod (Y j).1 ∈ TW)
    (h : pm_ar1 st n (fun as r => pm_r r (fun b r => pm_inv C call cost ak nxe mc ms (fun _ _ => False) X pc ls j (.ref b :: as) r uc us S))) : pm_X p l e (pm_R (d + 1) mc ms) s m args below meth c D n0 sa ck nL mc ms ak.2 Q pc ls st uc us S := by
  intro lsA H locs hl hP hS
  obtain ⟨hn, h⟩ := h
  obtain ⟨b, r, hr0, h4, h5, h6, h7, h8⟩ := pm_r_e h
  clear h
  have B' := B
  obtain ⟨hx, hb, hml, hown, hts, hrt, hlocks, hex, hini, hK, hn0, hG⟩ := B
  refine pm_size (fun hz => ?_)
  have hM := pm_calm (hcall _ _ _ _ h8) (fun E S h => by unfold pm_po at h; dsimp only at h; split at h <;> first | exact h | exact h.2.2)
  have hcn := pm_cb (d := d) (cost := cost) (mc := mc) (ms := ms) B' hT hY hh hlk
  rw [hrn] at hcn
  have hr := va_runI (b := n0 + b) (As := (st.take n).reverse.map (pm_v n0 sa)) (rest := r.map (pm_v n0 sa)) (Ts := Ts) (meth := meth) (below := below) (e := e) (locs := locs) (cells := uc) (slots := us) (g := F0 m pc lsA (st.map (pm_v n0 sa))) ⟨hx, hb, hml, hown, hts⟩ hM ⟨hcn, hnm, hts _ (hT.1 _ hin)⟩ ⟨pm_Pc_blind hGm, pm_Pc_at hGm hn0 hK hG hP hS (fun q => by obtain ⟨q1, q2⟩ := h7 q; have := hal q1; omega)⟩ rfl (by simp; omega) hl.2.1
    (by show st.map (pm_v n0 sa) = _; rw [← List.map_reverse, List.reverse_reverse]; show _ = List.map (pm_v n0 sa) (st.take n) ++ List.map (pm_v n0 sa) (.ref b :: r); rw [← hr0, ← List.map_append, List.take_append_drop]) (by simpa [F0, JFrame.monitorRoom] using pm_rest4 h4) (hd.d rfl) ⟨h5, h6⟩
  refine pm_aft (Q1 := pm_po C cost ak (fun _ _ => False) X pc ls j r uc us) (r := r) (a := ((.ref b :: (st.take n).reverse).map (pm_v n0 sa)).toArray) (R := pm_R (d + 1) mc ms) (Q0 := fun _ _ => False) B' (fun _ _ h => h) (fun _ _ h => False.elim h) hX hl hS h5 h6 ?_
  exact fun T hT0 X0 => Or.inl (hr T hT0 X0)
/-- a helper with an exception table -/
theorem so_helper {d : Nat} (B : pm_B p s m args meth c D ck n0 C cc nL own Ts G) (hT : pm_TW TW Ts) (hGm : pm_Gm n0 G) {call : pCall} (hcall : ∀ j as S Q, call j as S Q → pm_Met l D n0 sa ck G TW Y cost d j as S Q) {ak : Bool × Bool} {nxe : Nat} (hal : ak.1 = true → s.heap.size ≤ n0 + nxe) {X : pF} (hX : ∀ pc ls st uc us S, uc ≤ mc ∧ us ≤ ms → X pc ls st uc us S → pm_X p l e (pm_R (d + 1) mc ms) s m args below meth c D n0 sa ck nL mc ms ak.2 Q pc ls st uc us S)
    {pc tg : Nat} {ls : pL} {st : List Value} {uc us : Nat} {S : pS} {i j n : Nat} (hd : pm_okI cc pc (.invokestatic i) tg) (hY : pm_okY Y TW j n) (hh : pm_hh j ≠ []) (hlk : Cond.methodLink own i (Y j).1 ∈ TW) (hst : Cond.static (Y j).1 ∈ TW)
    (h : pm_ar1 st n (fun as r => pm_inv C call cost ak nxe mc ms Q X pc ls j as r uc us S)) : pm_X p l e (pm_R (d + 1) mc ms) s m args below meth c D n0 sa ck nL mc ms ak.2 Q pc ls st uc us S := by
  intro lsA H locs hl hP hS
  obtain ⟨hn, h4, h5, h6, h7, h8⟩ := h
  have B' := B
  obtain ⟨hx, hb, hml, hown, hts, hrt, hlocks, hex, hini, hK, hn0, hG⟩ := B
  refine pm_size (fun hz => ?_)
  refine pm_aft (Q1 := pm_po C cost ak Q X pc ls j (st.drop n) uc us) (r := st.drop n) (a := ((st.take n).reverse.map (pm_v n0 sa)).toArray) B' (fun _ _ h => h) (fun _ _ h => h) hX hl hS h5 h6 ?_
  have hgood : GoodIn Ts (va_wsS own i (Y j).1 (pm_ws Y TW j)) := by
    intro w hw
    unfold va_wsS at hw
    rcases List.mem_append.mp hw with h | h
    · simp only [List.mem_cons, List.not_mem_nil, or_false] at h
      rcases h with rfl | rfl | rfl
      · exact ⟨hT.1 _ hlk, hT.2 _ hlk⟩
      · exact ⟨hT.1 _ hst, hT.2 _ hst⟩
      · exact ⟨hT.1 _ hY.2.2.2.2.2, hT.2 _ hY.2.2.2.2.2⟩
    · exact pm_good hT hY w h
  have hcw : vx_CSW (pm_R (d + 1) mc ms) s args own i (Y j).1 (Y j).2.1 (Y j).2.2.1 (Y j).2.2.2 (pm_hh j) (pm_ws Y TW j) (pm_R d (cost j).1 (cost j).2.1) (cost j).1 (cost j).2.1 n := vx_cwSW n hts hgood (pm_ws1 hh) rfl rfl ⟨hY.2.2.1, hY.2.2.2.1, hY.2.2.2.2.1⟩ ⟨Nat.le_refl _, by have := hY.2.1; show 8 + ((Y j).2.2.1 + 11) + (40 * d + 6) ≤ 40 * (d + 1) + 6; omega⟩
  exact vx_runSX (As := (st.take n).reverse.map (pm_v n0 sa)) (Ts := Ts) ⟨hx, hb, hml, hown, hts⟩ (hcall _ _ _ _ h8) hcw ⟨pm_Pc_blind hGm, pm_Pc_at hGm hn0 hK hG hP hS (fun q => by obtain ⟨q1, q2⟩ := h7 q; have := hal q1; omega)⟩ rfl (by simp; omega) hl.2.1
    (by show st.map (pm_v n0 sa) = _; rw [← List.map_reverse, List.reverse_reverse, ← List.map_append, List.take_append_drop]) (by simpa [F0, JFrame.monitorRoom] using pm_rest4 h4) (hd.d rfl) ⟨h5, h6⟩
theorem so_objInit {d : Nat} (B : pm_B p s m args meth c D ck n0 C cc nL own Ts G) (hT : pm_TW TW Ts) {pc tg : Nat} {ls : pL} {st : List Value} {uc us : Nat} {S : pS} {i ci : Nat} {ak : Bool × Bool} (hd : pm_okI cc pc (.invokespecial i) tg) (hlk : Cond.methodLink own i Lib.objectInit ∈ TW) (hin : Cond.instanceMethod Lib.objectInit ∈ TW) (hco : Cond.code Lib.objectInit ⟨#[0xb1]⟩ 1 none ∈ TW)
    (h : 2 ≤ d ∧ pm_r st (fun b r => pm_ob S b ci (fun _ => True) ∧ r = [] ∧ pm_X p l e (pm_R d mc ms) s m args below meth c D n0 sa ck nL mc ms ak.2 Q (pc + 3) ls r uc us S)) : pm_X p l e (pm_R d mc ms) s m args below meth c D n0 sa ck nL mc ms ak.2 Q pc ls st uc us S := by
  intro lsA H locs hl hP hS
  obtain ⟨hd2, h⟩ := h
  obtain ⟨b, r, rfl, hob, hr0, h2⟩ := pm_r_e h
  clear h
  subst hr0
  obtain ⟨hx, hb, hml, hown, hts, hrt, hlocks, hex, hini, hK, hn0, hG⟩ := B
  exact W.objInit hx hb hown (hts _ (hT.1 _ hlk)) (hts _ (hT.1 _ hin)) (hts _ (hT.1 _ hco)) rfl (by rw [hml]; exact hl.2.1) rfl (hd.d rfl) (by show 1 ≤ d; omega) (by show _ ≤ 40 * d + 6; simp [JFrame.monitorRoom]; omega) (h2 lsA H locs hl hP hS)
end PMC
