def pm_len : Instr → Nat
  | .bipush _ => 2 | .sipush _ => 3 | .ldc _ => 2 | .ldc_w _ => 3 | .ldc2_w _ => 3 | .iload _ => 2 | .lload _ => 2 | .aload _ => 2 | .istore _ => 2 | .lstore _ => 2 | .astore _ => 2 | .iinc _ _ => 3
  | .goto _ => 3 | .ifCond _ _ => 3 | .if_icmp _ _ => 3 | .getfield _ => 3 | .putfield _ => 3 | .invokestatic _ => 3 | .invokevirtual _ => 3 | .invokespecial _ => 3 | .new _ => 3 | .newarray _ => 2 | .tableswitch _ _ _ _ => 0
  | _ => 1
def pm_off : Instr → Option Int
  | .goto o => some o
  | .ifCond _ o => some o
  | .if_icmp _ o => some o
  | _ => none
def pm_okI (cc : ByteArray) (pc : Nat) (ins : Instr) (tg : Nat) : Prop := (∃ len, decode cc pc = .ok (ins, len) ∧ (pm_len ins = 0 ∨ len = pm_len ins)) ∧ (∀ o, pm_off ins = some o → (pc : Int) + o = (tg : Int))
theorem pm_okI.d {cc : ByteArray} {pc : Nat} {ins : Instr} {tg : Nat} (h : pm_okI cc pc ins tg) {n : Nat} (hn : pm_len ins = n + 1) : decode cc pc = .ok (ins, n + 1) := by
  obtain ⟨⟨len, h1, h2⟩, -⟩ := h
  rcases h2 with h2 | h2
  · omega
  · rw [h1, h2, hn]
/-- the array classes: ints, longs, chars, booleans -/
def pm_tys (ck : Nat → ClassId) : List (ClassId × FieldType) := [(ck 0, .int), (ck 1, .long), (ck 2, .char), (ck 3, .boolean)]
/-- what a method's handlers do with a class that comes out of the call at pc: nothing; an answer -/
def pm_okH (c : Code) (cc : ByteArray) (nL : Nat) (own : String) (args : Array Value) (s : State) (pc : Nat) (E : String) (o : Option (Option Int32)) : Prop := match o with
  | none => True
  | some none => ∀ z ∈ c.exceptionTable.toList, covers z pc = false ∨ (z.catchType ≠ 0 ∧ ∃ nm : String, (Cond.classLink own z.catchType nm).before args s = true ∧ va_Nc E nm s)
  | some (some x) => ∃ (pre : List ExceptionTableEntry) (z0 : ExceptionTableEntry) (suf : List ExceptionTableEntry) (name : String) (k len : Nat) (n : Int), c.exceptionTable.toList = pre ++ z0 :: suf ∧ (∀ z ∈ pre, covers z pc = false ∨ (z.catchType ≠ 0 ∧ ∃ nm : String, (Cond.classLink own z.catchType nm).before args s = true ∧ va_Nc E nm s)) ∧ covers z0 pc = true ∧ z0.catchType ≠ 0 ∧ (Cond.classLink own z0.catchType name).before args s = true ∧ (Cond.castable E name).before args s = true ∧ k < nL ∧
    ((∃ k' : Fin 4, (k' : Nat) = k ∧ len = 1 ∧ decode cc z0.handlerPc = .ok (.astore_n k', 1)) ∨ (len = 2 ∧ decode cc z0.handlerPc = .ok (.astore k, 2))) ∧ decode cc (z0.handlerPc + len) = .ok (.iconst n, 1) ∧ Int32.ofInt n = x ∧ decode cc (z0.handlerPc + len + 1) = .ok (.ireturn, 1)
/-- a body's surroundings -/
def pm_B (p : Program) (s : State) (m : MethodId) (args : Array Value) (meth : Method) (c : Code) (D : va_G) (ck : Nat → ClassId) (n0 : Nat) (C : pC) (cc : ByteArray) (nL : Nat) (own : String) (Ts : List Cond) (G : State → Prop) : Prop :=
  p.tables.exec = Jvm.exec ∧ c.code = cc ∧ c.maxLocals = nL ∧ s.vm.findClass own = some m.cls ∧ (∀ w ∈ Ts, w.before args s = true) ∧ meth.sig.returnType = pc_rt C ∧ meth.locks = false ∧ ((∀ pc E, pm_okH c cc nL own args s pc E (pc_hd C pc E)) ∧ ∀ pc E, pc_th C pc = some E → ∀ x ∈ c.exceptionTable.toList, False) ∧ (pc_ini C = true → meth.name = "<init>") ∧ va_K D vwCl (pm_tys ck) s ∧ n0 ≤ s.heap.size ∧ G s
/-- no cell more, each as long as it was -/
def pm_same (st t : State) : Prop := t.heap.size = st.heap.size ∧ ∀ (a : Nat) (c : Cell), st.heap[a]? = some c → ∃ c', t.heap[a]? = some c' ∧ c'.slots.size = c.slots.size
def pm_Qc (D : va_G) (n0 : Nat) (sa : Nat → Nat) (ck : Nat → ClassId) (al : Bool) (Q : pQ) : Array Value → State → Outcome → State → Prop := fun _ st o t => (al = false → pm_same st t) ∧ (∃ (v : Option Value) (S : pS), o = .returned (v.map (pm_v n0 sa)) ∧ Q (.inl v) S ∧ va_P D vwCl (pm_w n0 sa ck S) t.heap) ∧ va_F (fun q => n0 ≤ q) st t
def pm_XC (D : va_G) (n0 : Nat) (sa : Nat → Nat) (ck : Nat → ClassId) (Q : pQ) : String → State → State → Prop := fun E st t => (∃ S : pS, Q (.inr E) S ∧ va_P D vwCl (pm_w n0 sa ck S) t.heap) ∧ va_F (fun q => n0 ≤ q) st t
/-- what the pure machine's step is shown of -/
def pm_X (p : Program) (l : Launch) (e : Env) (R : Room) (s : State) (m : MethodId) (args : Array Value) (below : List Frame) (meth : Method) (c : Code) (D : va_G) (n0 : Nat) (sa : Nat → Nat) (ck : Nat → ClassId) (nL mc ms : Nat) (al : Bool) (Q : pQ) : pF := fun pc ls st uc us S =>
  ∀ (lsA : Array Slot) (H : Heap) (locs : List Loc), pm_lr n0 sa lsA nL ls → va_P D vwCl (pm_w n0 sa ck S) H → va_S (fun q => n0 ≤ q) s.heap H locs →
    W p l e R s m args below meth c H locs uc us (vx_MQ below (pm_Qc D n0 sa ck al Q) (pm_XC D n0 sa ck Q) args s mc ms (fun q => n0 ≤ q)) (F0 m pc lsA (st.map (pm_v n0 sa)))
def pm_okF (own : String) (Ts : List Cond) (ini : Bool) (i ci k : Nat) : Prop := ∃ (C' : String) (T : u_T) (N : Nat), vwCl[ci]? = some (C', T, N) ∧ k < N ∧ Cond.fieldLink own i (T k).1 (T k).2.1 (T k).2.2.1 ∈ Ts ∧ (ini = true → (T k).2.2.2 = true → (T k).1 = own)
def pm_okC (Ts : List Cond) : Prop := ∀ (ci : Nat) (C' : String) (T : u_T) (N : Nat), vwCl[ci]? = some (C', T, N) → (∀ w ∈ u_ws C' T N, w ∈ Ts) ∧ ∃ ty0 : Nat → FieldType, (∀ k, k < N → parseFieldDescriptor (T k).2.2.1 = some (ty0 k)) ∧ ∀ a, a < N → ∀ b, b < N → a ≠ b → (T a).2.1 ≠ (T b).2.1
section PMS
variable {p : Program} {l : Launch} {e : Env} {R : Room} {s : State} {m : MethodId} {args : Array Value} {below : List Frame} {meth : Method} {c : Code} {D : va_G} {n0 : Nat} {sa : Nat → Nat} {ck : Nat → ClassId} {nL mc ms : Nat} {al : Bool} {Q : pQ} {C : pC} {cc : ByteArray} {own : String} {Ts : List Cond} {G : State → Prop}
theorem so_iconst (B : pm_B p s m args meth c D ck n0 C cc nL own Ts G) {pc tg : Nat} {ls : pL} {st : List Value} {uc us : Nat} {S : pS} {n : Int} (hd : pm_okI cc pc (.iconst n) tg) (h : pm_X p l e R s m args below meth c D n0 sa ck nL mc ms al Q (pc + 1) ls (.int (Int32.ofInt n) :: st) uc us S) : pm_X p l e R s m args below meth c D n0 sa ck nL mc ms al Q pc ls st uc us S := by
  intro lsA H locs hl hP hS
  exact lv_iconst B.1 B.2.1 (hd.d rfl) rfl (h lsA H locs hl hP hS)
theorem so_iload (B : pm_B p s m args meth c D ck n0 C cc nL own Ts G) {pc tg : Nat} {ls : pL} {st : List Value} {uc us : Nat} {S : pS} {i : Nat} (hd : pm_okI cc pc (.iload i) tg) (h : pm_gi ls i (fun x => pm_X p l e R s m args below meth c D n0 sa ck nL mc ms al Q (pc + 2) ls (.int x :: st) uc us S)) : pm_X p l e R s m args below meth c D n0 sa ck nL mc ms al Q pc ls st uc us S := by
  intro lsA H locs hl hP hS
  obtain ⟨x, hg, h⟩ := pm_gi_e h
  exact lv_iload B.1 B.2.1 (hd.d rfl) (hl.2.2.2 _ _ hg) (h lsA H locs hl hP hS)
theorem so_iadd (B : pm_B p s m args meth c D ck n0 C cc nL own Ts G) {pc tg : Nat} {ls : pL} {st : List Value} {uc us : Nat} {S : pS} (hd : pm_okI cc pc .iadd tg) (h : pm_ii st (fun x y r => pm_X p l e R s m args below meth c D n0 sa ck nL mc ms al Q (pc + 1) ls (.int (x + y) :: r) uc us S)) : pm_X p l e R s m args below meth c D n0 sa ck nL mc ms al Q pc ls st uc us S := by
  intro lsA H locs hl hP hS
  obtain ⟨x, y, r, rfl, h⟩ := pm_ii_e h
  exact lv_iadd B.1 B.2.1 (hd.d rfl) (h lsA H locs hl hP hS)
theorem so_istore (B : pm_B p s m args meth c D ck n0 C cc nL own Ts G) {pc tg : Nat} {ls : pL} {st : List Value} {uc us : Nat} {S : pS} {i : Nat} (hd : pm_okI cc pc (.istore i) tg) (h : pm_i st (fun x r => i < ls.length ∧ pm_X p l e R s m args below meth c D n0 sa ck nL mc ms al Q (pc + 2) (pm_set ls i (.int x)) r uc us S)) : pm_X p l e R s m args below meth c D n0 sa ck nL mc ms al Q pc ls st uc us S := by
  intro lsA H locs hl hP hS
  obtain ⟨x, r, rfl, hi, h⟩ := pm_i_e h
  exact lv_istore B.1 B.2.1 (hd.d rfl) (pm_lr_has hl) (hl.1 ▸ hi) rfl (fun ls' h' => h ls' H locs (pm_lr_set1 (v := .int x) rfl hl.1 h') hP hS)
theorem so_getfield (B : pm_B p s m args meth c D ck n0 C cc nL own Ts G) (hC : pm_okC Ts) {pc tg : Nat} {ls : pL} {st : List Value} {uc us : Nat} {S : pS} {i ci k : Nat} (hd : pm_okI cc pc (.getfield i) tg) (hf : pm_okF own Ts (pc_ini C) i ci k) (h : pm_r st (fun a r => pm_ob S a ci (fun fs => pm_o (fs[k]?) (fun v => pm_X p l e R s m args below meth c D n0 sa ck nL mc ms al Q (pc + 3) ls (v :: r) uc us S)))) : pm_X p l e R s m args below meth c D n0 sa ck nL mc ms al Q pc ls st uc us S := by
  intro lsA H locs hl hP hS
  obtain ⟨a, r, rfl, h⟩ := pm_r_e h
  obtain ⟨ha, fs, hfs, h⟩ := pm_ob_e h
  obtain ⟨v, hv, h⟩ := pm_o_e h
  obtain ⟨hx, hb, hml, hown, hts, hr, hlocks, hex, hini, hK, hn0, hG⟩ := B
  obtain ⟨C', T, N, hc, hk, hlink, -⟩ := hf
  exact va_get (D := D) (ci := ci) (v := pm_v n0 sa v) (C := C') (T := T) (N := N) (fs := fs.map (pm_v n0 sa)) hx hb hts (hC _ _ _ _ hc).1 hown hK hP a (by rw [pm_w_get ha, hfs]; rfl) hc k hk (hts _ hlink) (fun _ h9 => h9) (by rw [List.getElem?_map, hv]; rfl) (hd.d rfl) (h lsA H locs hl hP hS)
theorem so_putfield (B : pm_B p s m args meth c D ck n0 C cc nL own Ts G) (hC : pm_okC Ts) {pc tg : Nat} {ls : pL} {st : List Value} {uc us : Nat} {S : pS} {i ci k : Nat} (hd : pm_okI cc pc (.putfield i) tg) (hf : pm_okF own Ts (pc_ini C) i ci k) (h : pm_vr st (fun v a r => pm_ob S a ci (fun fs => k < fs.length ∧ pm_o (pm_ft ci k) (fun t => pm_fit t.1 v = true ∧ (t.2 = true → pc_ini C = true) ∧ pm_X p l e R s m args below meth c D n0 sa ck nL mc ms al Q (pc + 3) ls r uc us (pm_up S a (.inr (ci, fs.set k v))))))) : pm_X p l e R s m args below meth c D n0 sa ck nL mc ms al Q pc ls st uc us S := by
  intro lsA H locs hl hP hS
  obtain ⟨v, a, r, rfl, h⟩ := pm_vr_e h
  obtain ⟨ha, fs, hfs, hkl, h⟩ := pm_ob_e h
  obtain ⟨t, ht, hfit, hfin, h⟩ := pm_o_e h
  obtain ⟨hx, hb, hml, hown, hts, hr, hlocks, hex, hini, hK, hn0, hG⟩ := B
  obtain ⟨C', T, N, hc, hk, hlink, hdecl⟩ := hf
  obtain ⟨hin, ty0, hty, hnm⟩ := hC _ _ _ _ hc
  unfold pm_ft at ht
  rw [hc] at ht
  dsimp only at ht
  rw [if_pos hk, hty k hk] at ht
  cases ht
  have e1 : (pm_w n0 sa ck S)[a]? = some (n0 + a, .inr (ci, fs.map (pm_v n0 sa))) := by rw [pm_w_get ha, hfs]; rfl
  have e2 : (pm_w n0 sa ck S).set a (n0 + a, .inr (ci, (fs.map (pm_v n0 sa)).set k (pm_v n0 sa v))) = pm_w n0 sa ck (pm_up S a (.inr (ci, fs.set k v))) := by
    rw [← pm_w_set]
    show _ = (pm_w n0 sa ck S).set a (n0 + a, .inr (ci, (fs.set k v).map (pm_v n0 sa)))
    rw [List.map_set]
  obtain ⟨f1, f2⟩ := pm_fit_ok (n0 := n0) (sa := sa) hfit
  cases hfb : (T k).2.2.2 with
  | false =>
    refine va_put (D := D) (ci := ci) (v := pm_v n0 sa v) (ty := ty0 k) (C := C') (T := T) (N := N) (fs := fs.map (pm_v n0 sa)) hx hb hts hin ty0 hty hnm hown hK hP pm_w_D hS a e1 hc k hk (hts _ hlink) (fun _ h9 => h9) hfb (hty k hk) f1 f2 (by rw [List.length_map]; exact hkl) (hd.d rfl) (fun H1 locs1 hP1 _ hS1 => ?_)
    rw [e2] at hP1
    exact h lsA H1 locs1 hl hP1 hS1
  | true =>
    refine va_putF (D := D) (ci := ci) (v := pm_v n0 sa v) (ty := ty0 k) (C := C') (T := T) (N := N) (fs := fs.map (pm_v n0 sa)) hx hb hts hin ty0 hty hnm hown hK hP pm_w_D hS a e1 hc k hk (hts _ hlink) (fun _ h9 => h9) hfb (hini (hfin hfb)) (hdecl (hfin hfb) hfb) (hty k hk) f1 f2 (by rw [List.length_map]; exact hkl) (hd.d rfl) (fun H1 locs1 hP1 _ hS1 => ?_)
    rw [e2] at hP1
    exact h lsA H1 locs1 hl hP1 hS1
/-- the script that a method reads -/
def pm_S0 (s : State) (n0 : Nat) (sa : Nat → Nat) (C : pC) : Prop := ∀ L xs, pc_sc C = some (L, xs) → va_X (sa 1000) L xs s s.heap ∧ sa 1000 < s.heap.size ∧ ¬ n0 ≤ sa 1000 ∧ L < 2 ^ 31
theorem so_iaload (B : pm_B p s m args meth c D ck n0 C cc nL own Ts G) (hsc : pm_S0 s n0 sa C) {pc tg : Nat} {ls : pL} {st : List Value} {uc us : Nat} {S : pS} (hd : pm_okI cc pc .iaload tg) (h : pm_ia C S st (fun x r => pm_X p l e R s m args below meth c D n0 sa ck nL mc ms al Q (pc + 1) ls (.int x :: r) uc us S)) : pm_X p l e R s m args below meth c D n0 sa ck nL mc ms al Q pc ls st uc us S := by
  intro lsA H locs hl hP hS
  obtain ⟨hx, hb, hml, hown, hts, hr, hlocks, hex, hini, hK, hn0, hG⟩ := B
  rcases pm_ia_e h with ⟨i, a, r, n, f, rfl, ha, hf, hi, h⟩ | ⟨i, r, L, xs, rfl, hs, hi, h⟩
  · exact va_iald (cA := ck 0) (n := n) (f := f) hx hb hK hP a 0 (by rw [pm_w_get ha, hf]; rfl) rfl hi (hd.d rfl) (h lsA H locs hl hP hS)
  · obtain ⟨g1, g2, g3, g4⟩ := hsc L xs hs
    exact va_sld hx hb g1 g2 g3 hS hi (hd.d rfl) (h lsA H locs hl hP hS)
theorem so_iastore (B : pm_B p s m args meth c D ck n0 C cc nL own Ts G) {pc tg : Nat} {ls : pL} {st : List Value} {uc us : Nat} {S : pS} (hd : pm_okI cc pc .iastore tg) (h : pm_iir st (fun x i a r => pm_ar S a 0 (fun n f => pm_ix i n (pm_X p l e R s m args below meth c D n0 sa ck nL mc ms al Q (pc + 1) ls r uc us (pm_up S a (.inl (0, n, .inl (upd f i.toNatClampNeg x)))))))) : pm_X p l e R s m args below meth c D n0 sa ck nL mc ms al Q pc ls st uc us S := by
  intro lsA H locs hl hP hS
  obtain ⟨x, i, a, r, rfl, h⟩ := pm_iir_e h
  obtain ⟨ha, n, f, hf, hi, h⟩ := pm_ar_e h
  obtain ⟨hx, hb, hml, hown, hts, hr, hlocks, hex, hini, hK, hn0, hG⟩ := B
  refine va_iast (cA := ck 0) (n := n) (f := f) hx hb hK hP pm_w_D hS a 0 (by rw [pm_w_get ha, hf]; rfl) rfl hi (hd.d rfl) (fun H1 locs1 hP1 _ hS1 => ?_)
  exact h lsA H1 locs1 hl ((pm_w_set (n0 := n0) (sa := sa) (ck := ck) (S := S) (i := a) (.inl (0, n, .inl (upd f i.toNatClampNeg x)))) ▸ hP1) hS1
/-- what a body knows of the cells that were there, and of how many there are -/
theorem pm_ends {H : Heap} {locs : List Loc} {uc us : Nat} {Qf : State → Prop} {g : JFrame} (hu : al = false → uc = 0 ∧ us = 0) (k : (al = false → ∀ t : State, t.heap = H → pm_same s t) → W p l e R s m args below meth c H locs uc us Qf g) : W p l e R s m args below meth c H locs uc us Qf g := by
  intro T hT X
  refine k (fun ha t ht => ?_) T hT X
  have h3 : T.heap.size ≤ s.heap.size + uc := X.heapSize
  have h2 : s.heap.size ≤ T.heap.size := X.same.2.1
  have h6 := X.same.2.2.2.2.2
  refine ⟨?_, fun a c0 h0 => ?_⟩
  · rw [ht, ← hT]
    have := (hu ha).1
    omega
  · obtain ⟨c', e1, e2, e3, -⟩ := h6 a c0 h0
    exact ⟨c', by rw [ht, ← hT]; exact e1, e3⟩
theorem so_ireturn (B : pm_B p s m args meth c D ck n0 C cc nL own Ts G) {pc tg : Nat} {ls : pL} {st : List Value} {uc us : Nat} {S : pS} (hu : uc ≤ mc ∧ us ≤ ms) (hd : pm_okI cc pc .ireturn tg) (h : pm_i st (fun x r => r = [] ∧ pm_o (pc_rt C) (fun ty => pm_fit ty (.int x) = true ∧ (al = false → uc = 0 ∧ us = 0) ∧ Q (.inl (some (.int x))) S))) : pm_X p l e R s m args below meth c D n0 sa ck nL mc ms al Q pc ls st uc us S := by
  intro lsA H locs hl hP hS
  obtain ⟨x, r, rfl, h0, h2⟩ := pm_i_e h
  subst h0
  clear h
  obtain ⟨ty, ht, hf, ha, h⟩ := pm_o_e h2
  obtain ⟨hx, hb, hml, hown, hts, hr, hlocks, hex, hini, hK, hn0, hG⟩ := B
  refine pm_ends (al := al) ha (fun hsm => ?_)
  refine W.widen (k := mc) (n := ms) hu.1 hu.2 (vx_ret ?_)
  exact W.zret (v := x) (ty := ty) hx hb (hr.trans ht) (pm_fit_ok (n0 := n0) (sa := sa) hf).1 (fun t ht hW => ⟨fun q => hsm q t ht, ⟨some (.int x), S, rfl, h, by rw [ht]; exact hP⟩, hS.F ht⟩) hS.2.2 (hd.d rfl) hlocks
end PMS
