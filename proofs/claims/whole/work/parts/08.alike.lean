section PMT
variable {p : Program} {l : Launch} {e : Env} {R : Room} {s : State} {m : MethodId} {args : Array Value} {below : List Frame} {meth : Method} {c : Code} {D : va_G} {n0 : Nat} {sa : Nat → Nat} {ck : Nat → ClassId} {nL mc ms : Nat} {al : Bool} {Q : pQ} {C : pC} {cc : ByteArray} {own : String} {Ts : List Cond} {G : State → Prop}
theorem so_bipush (B : pm_B p s m args meth c D ck n0 C cc nL own Ts G) {pc tg : Nat} {ls : pL} {st : List Value} {uc us : Nat} {S : pS} {n : Int} (hd : pm_okI cc pc (.bipush n) tg) (h : pm_X p l e R s m args below meth c D n0 sa ck nL mc ms al Q (pc + 2) ls (.int (Int8.ofInt n).toInt32 :: st) uc us S) : pm_X p l e R s m args below meth c D n0 sa ck nL mc ms al Q pc ls st uc us S := by
  intro lsA H locs hl hP hS
  exact lv_bipush B.1 B.2.1 (hd.d rfl) rfl (h lsA H locs hl hP hS)
theorem so_sipush (B : pm_B p s m args meth c D ck n0 C cc nL own Ts G) {pc tg : Nat} {ls : pL} {st : List Value} {uc us : Nat} {S : pS} {n : Int} (hd : pm_okI cc pc (.sipush n) tg) (h : pm_X p l e R s m args below meth c D n0 sa ck nL mc ms al Q (pc + 3) ls (.int (Int16.ofInt n).toInt32 :: st) uc us S) : pm_X p l e R s m args below meth c D n0 sa ck nL mc ms al Q pc ls st uc us S := by
  intro lsA H locs hl hP hS
  exact lv_sipush B.1 B.2.1 (hd.d rfl) rfl (h lsA H locs hl hP hS)
theorem so_lconst (B : pm_B p s m args meth c D ck n0 C cc nL own Ts G) {pc tg : Nat} {ls : pL} {st : List Value} {uc us : Nat} {S : pS} {n : Fin 2} (hd : pm_okI cc pc (.lconst n) tg) (h : pm_X p l e R s m args below meth c D n0 sa ck nL mc ms al Q (pc + 1) ls (.long (Int64.ofNat (n : Nat)) :: st) uc us S) : pm_X p l e R s m args below meth c D n0 sa ck nL mc ms al Q pc ls st uc us S := by
  intro lsA H locs hl hP hS
  exact lv_lconst B.1 B.2.1 (hd.d rfl) rfl (h lsA H locs hl hP hS)
theorem so_iload_n (B : pm_B p s m args meth c D ck n0 C cc nL own Ts G) {pc tg : Nat} {ls : pL} {st : List Value} {uc us : Nat} {S : pS} {i : Fin 4} (hd : pm_okI cc pc (.iload_n i) tg) (h : pm_gi ls i (fun x => pm_X p l e R s m args below meth c D n0 sa ck nL mc ms al Q (pc + 1) ls (.int x :: st) uc us S)) : pm_X p l e R s m args below meth c D n0 sa ck nL mc ms al Q pc ls st uc us S := by
  intro lsA H locs hl hP hS
  obtain ⟨x, hg, h⟩ := pm_gi_e h
  exact lv_iload_n B.1 B.2.1 (hd.d rfl) rfl (hl.2.2.2 _ _ hg) (h lsA H locs hl hP hS)
theorem so_lload (B : pm_B p s m args meth c D ck n0 C cc nL own Ts G) {pc tg : Nat} {ls : pL} {st : List Value} {uc us : Nat} {S : pS} {i : Nat} (hd : pm_okI cc pc (.lload i) tg) (h : pm_gl ls i (fun x => pm_X p l e R s m args below meth c D n0 sa ck nL mc ms al Q (pc + 2) ls (.long x :: st) uc us S)) : pm_X p l e R s m args below meth c D n0 sa ck nL mc ms al Q pc ls st uc us S := by
  intro lsA H locs hl hP hS
  obtain ⟨x, hg, h⟩ := pm_gl_e h
  exact lv_lload B.1 B.2.1 (hd.d rfl) (hl.2.2.2 _ _ hg) (h lsA H locs hl hP hS)
theorem so_lload_n (B : pm_B p s m args meth c D ck n0 C cc nL own Ts G) {pc tg : Nat} {ls : pL} {st : List Value} {uc us : Nat} {S : pS} {i : Fin 4} (hd : pm_okI cc pc (.lload_n i) tg) (h : pm_gl ls i (fun x => pm_X p l e R s m args below meth c D n0 sa ck nL mc ms al Q (pc + 1) ls (.long x :: st) uc us S)) : pm_X p l e R s m args below meth c D n0 sa ck nL mc ms al Q pc ls st uc us S := by
  intro lsA H locs hl hP hS
  obtain ⟨x, hg, h⟩ := pm_gl_e h
  exact lv_lload_n B.1 B.2.1 (hd.d rfl) rfl (hl.2.2.2 _ _ hg) (h lsA H locs hl hP hS)
theorem so_aload (B : pm_B p s m args meth c D ck n0 C cc nL own Ts G) {pc tg : Nat} {ls : pL} {st : List Value} {uc us : Nat} {S : pS} {i : Nat} (hd : pm_okI cc pc (.aload i) tg) (h : pm_ga ls i (fun v => pm_X p l e R s m args below meth c D n0 sa ck nL mc ms al Q (pc + 2) ls (v :: st) uc us S)) : pm_X p l e R s m args below meth c D n0 sa ck nL mc ms al Q pc ls st uc us S := by
  intro lsA H locs hl hP hS
  obtain ⟨v, hg, hv, h⟩ := pm_ga_e h
  obtain ⟨a, ea⟩ := pm_v_isr (n0 := n0) (sa := sa) hv
  have h := h lsA H locs hl hP hS
  rw [List.map_cons, ea] at h
  exact lv_aload B.1 B.2.1 (hd.d rfl) (ea ▸ hl.2.2.2 _ _ hg) h
theorem so_astore (B : pm_B p s m args meth c D ck n0 C cc nL own Ts G) {pc tg : Nat} {ls : pL} {st : List Value} {uc us : Nat} {S : pS} {i : Nat} (hd : pm_okI cc pc (.astore i) tg) (h : pm_a st (fun v r => (i : Nat) < ls.length ∧ pm_X p l e R s m args below meth c D n0 sa ck nL mc ms al Q (pc + 2) (pm_set ls i v) r uc us S)) : pm_X p l e R s m args below meth c D n0 sa ck nL mc ms al Q pc ls st uc us S := by
  intro lsA H locs hl hP hS
  obtain ⟨v, r, rfl, hv, hi, h⟩ := pm_a_e h
  obtain ⟨a, ea⟩ := pm_v_isr (n0 := n0) (sa := sa) hv
  have hc : v.category = 1 := by rw [← pm_v_cat n0 sa v, ea]; rfl
  rw [List.map_cons, ea]
  exact lv_astore B.1 B.2.1 (hd.d rfl) (pm_lr_has hl) (hl.1 ▸ hi) rfl (fun ls' h' => h ls' H locs (pm_lr_set1 (v := v) hc hl.1 (ea.symm ▸ h')) hP hS)
theorem so_aload_n (B : pm_B p s m args meth c D ck n0 C cc nL own Ts G) {pc tg : Nat} {ls : pL} {st : List Value} {uc us : Nat} {S : pS} {i : Fin 4} (hd : pm_okI cc pc (.aload_n i) tg) (h : pm_ga ls i (fun v => pm_X p l e R s m args below meth c D n0 sa ck nL mc ms al Q (pc + 1) ls (v :: st) uc us S)) : pm_X p l e R s m args below meth c D n0 sa ck nL mc ms al Q pc ls st uc us S := by
  intro lsA H locs hl hP hS
  obtain ⟨v, hg, hv, h⟩ := pm_ga_e h
  obtain ⟨a, ea⟩ := pm_v_isr (n0 := n0) (sa := sa) hv
  have h := h lsA H locs hl hP hS
  rw [List.map_cons, ea] at h
  exact lv_aload_n B.1 B.2.1 (hd.d rfl) rfl (ea ▸ hl.2.2.2 _ _ hg) h
theorem so_astore_n (B : pm_B p s m args meth c D ck n0 C cc nL own Ts G) {pc tg : Nat} {ls : pL} {st : List Value} {uc us : Nat} {S : pS} {i : Fin 4} (hd : pm_okI cc pc (.astore_n i) tg) (h : pm_a st (fun v r => (i : Nat) < ls.length ∧ pm_X p l e R s m args below meth c D n0 sa ck nL mc ms al Q (pc + 1) (pm_set ls i v) r uc us S)) : pm_X p l e R s m args below meth c D n0 sa ck nL mc ms al Q pc ls st uc us S := by
  intro lsA H locs hl hP hS
  obtain ⟨v, r, rfl, hv, hi, h⟩ := pm_a_e h
  obtain ⟨a, ea⟩ := pm_v_isr (n0 := n0) (sa := sa) hv
  have hc : v.category = 1 := by rw [← pm_v_cat n0 sa v, ea]; rfl
  rw [List.map_cons, ea]
  exact lv_astore_n B.1 B.2.1 (hd.d rfl) rfl (pm_lr_has hl) (hl.1 ▸ hi) rfl (fun ls' h' => h ls' H locs (pm_lr_set1 (v := v) hc hl.1 (ea.symm ▸ h')) hP hS)
theorem so_istore_n (B : pm_B p s m args meth c D ck n0 C cc nL own Ts G) {pc tg : Nat} {ls : pL} {st : List Value} {uc us : Nat} {S : pS} {i : Fin 4} (hd : pm_okI cc pc (.istore_n i) tg) (h : pm_i st (fun x r => (i : Nat) < ls.length ∧ pm_X p l e R s m args below meth c D n0 sa ck nL mc ms al Q (pc + 1) (pm_set ls i (.int x)) r uc us S)) : pm_X p l e R s m args below meth c D n0 sa ck nL mc ms al Q pc ls st uc us S := by
  intro lsA H locs hl hP hS
  obtain ⟨x, r, rfl, hi, h⟩ := pm_i_e h
  exact lv_istore_n B.1 B.2.1 (hd.d rfl) rfl (pm_lr_has hl) (hl.1 ▸ hi) rfl (fun ls' h' => h ls' H locs (pm_lr_set1 (v := .int x) rfl hl.1 h') hP hS)
theorem so_lstore (B : pm_B p s m args meth c D ck n0 C cc nL own Ts G) {pc tg : Nat} {ls : pL} {st : List Value} {uc us : Nat} {S : pS} {i : Nat} (hd : pm_okI cc pc (.lstore i) tg) (h : pm_l st (fun x r => (i : Nat) + 1 < ls.length ∧ pm_X p l e R s m args below meth c D n0 sa ck nL mc ms al Q (pc + 2) (pm_set ls i (.long x)) r uc us S)) : pm_X p l e R s m args below meth c D n0 sa ck nL mc ms al Q pc ls st uc us S := by
  intro lsA H locs hl hP hS
  obtain ⟨x, r, rfl, hi, h⟩ := pm_l_e h
  exact lv_lstore B.1 B.2.1 (hd.d rfl) (pm_lr_has hl) (hl.1 ▸ hi) rfl (fun ls' h' => h ls' H locs (pm_lr_set2 (v := .long x) rfl hl.1 h') hP hS)
theorem so_lstore_n (B : pm_B p s m args meth c D ck n0 C cc nL own Ts G) {pc tg : Nat} {ls : pL} {st : List Value} {uc us : Nat} {S : pS} {i : Fin 4} (hd : pm_okI cc pc (.lstore_n i) tg) (h : pm_l st (fun x r => (i : Nat) + 1 < ls.length ∧ pm_X p l e R s m args below meth c D n0 sa ck nL mc ms al Q (pc + 1) (pm_set ls i (.long x)) r uc us S)) : pm_X p l e R s m args below meth c D n0 sa ck nL mc ms al Q pc ls st uc us S := by
  intro lsA H locs hl hP hS
  obtain ⟨x, r, rfl, hi, h⟩ := pm_l_e h
  exact lv_lstore_n B.1 B.2.1 (hd.d rfl) rfl (pm_lr_has hl) (hl.1 ▸ hi) rfl (fun ls' h' => h ls' H locs (pm_lr_set2 (v := .long x) rfl hl.1 h') hP hS)
theorem so_iinc (B : pm_B p s m args meth c D ck n0 C cc nL own Ts G) {pc tg : Nat} {ls : pL} {st : List Value} {uc us : Nat} {S : pS} {i : Nat} {n : Int} (hd : pm_okI cc pc (.iinc i n) tg) (h : pm_gi ls i (fun x => i < ls.length ∧ pm_X p l e R s m args below meth c D n0 sa ck nL mc ms al Q (pc + 3) (pm_set ls i (.int (x + Int32.ofInt n))) st uc us S)) : pm_X p l e R s m args below meth c D n0 sa ck nL mc ms al Q pc ls st uc us S := by
  intro lsA H locs hl hP hS
  obtain ⟨x, hg, hi, h⟩ := pm_gi_e h
  obtain ⟨k, hk⟩ := List.getElem?_of_mem (pm_lp_mem (n0 := n0) (sa := sa) hl.1 hg)
  exact lv_iinc (k := k) B.1 B.2.1 (hd.d rfl) (pm_lr_has hl) hk rfl (hl.1 ▸ hi) rfl (fun ls' h' => h ls' H locs (pm_lr_set1 (v := .int (x + Int32.ofInt n)) rfl hl.1 h') hP hS)
theorem so_isub (B : pm_B p s m args meth c D ck n0 C cc nL own Ts G) {pc tg : Nat} {ls : pL} {st : List Value} {uc us : Nat} {S : pS}  (hd : pm_okI cc pc (.isub) tg) (h : pm_ii st (fun x y r => pm_X p l e R s m args below meth c D n0 sa ck nL mc ms al Q (pc + 1) ls (.int (x - y) :: r) uc us S)) : pm_X p l e R s m args below meth c D n0 sa ck nL mc ms al Q pc ls st uc us S := by
  intro lsA H locs hl hP hS
  obtain ⟨x, y, r, rfl, h⟩ := pm_ii_e h
  exact lv_isub B.1 B.2.1 (hd.d rfl) (h lsA H locs hl hP hS)
theorem so_imul (B : pm_B p s m args meth c D ck n0 C cc nL own Ts G) {pc tg : Nat} {ls : pL} {st : List Value} {uc us : Nat} {S : pS}  (hd : pm_okI cc pc (.imul) tg) (h : pm_ii st (fun x y r => pm_X p l e R s m args below meth c D n0 sa ck nL mc ms al Q (pc + 1) ls (.int (x * y) :: r) uc us S)) : pm_X p l e R s m args below meth c D n0 sa ck nL mc ms al Q pc ls st uc us S := by
  intro lsA H locs hl hP hS
  obtain ⟨x, y, r, rfl, h⟩ := pm_ii_e h
  exact lv_imul B.1 B.2.1 (hd.d rfl) (h lsA H locs hl hP hS)
theorem so_iand (B : pm_B p s m args meth c D ck n0 C cc nL own Ts G) {pc tg : Nat} {ls : pL} {st : List Value} {uc us : Nat} {S : pS}  (hd : pm_okI cc pc (.iand) tg) (h : pm_ii st (fun x y r => pm_X p l e R s m args below meth c D n0 sa ck nL mc ms al Q (pc + 1) ls (.int (x &&& y) :: r) uc us S)) : pm_X p l e R s m args below meth c D n0 sa ck nL mc ms al Q pc ls st uc us S := by
  intro lsA H locs hl hP hS
  obtain ⟨x, y, r, rfl, h⟩ := pm_ii_e h
  exact lv_iand B.1 B.2.1 (hd.d rfl) (h lsA H locs hl hP hS)
theorem so_ior (B : pm_B p s m args meth c D ck n0 C cc nL own Ts G) {pc tg : Nat} {ls : pL} {st : List Value} {uc us : Nat} {S : pS}  (hd : pm_okI cc pc (.ior) tg) (h : pm_ii st (fun x y r => pm_X p l e R s m args below meth c D n0 sa ck nL mc ms al Q (pc + 1) ls (.int (x ||| y) :: r) uc us S)) : pm_X p l e R s m args below meth c D n0 sa ck nL mc ms al Q pc ls st uc us S := by
  intro lsA H locs hl hP hS
  obtain ⟨x, y, r, rfl, h⟩ := pm_ii_e h
  exact lv_ior B.1 B.2.1 (hd.d rfl) (h lsA H locs hl hP hS)
theorem so_ixor (B : pm_B p s m args meth c D ck n0 C cc nL own Ts G) {pc tg : Nat} {ls : pL} {st : List Value} {uc us : Nat} {S : pS}  (hd : pm_okI cc pc (.ixor) tg) (h : pm_ii st (fun x y r => pm_X p l e R s m args below meth c D n0 sa ck nL mc ms al Q (pc + 1) ls (.int (x ^^^ y) :: r) uc us S)) : pm_X p l e R s m args below meth c D n0 sa ck nL mc ms al Q pc ls st uc us S := by
  intro lsA H locs hl hP hS
  obtain ⟨x, y, r, rfl, h⟩ := pm_ii_e h
  exact lv_ixor B.1 B.2.1 (hd.d rfl) (h lsA H locs hl hP hS)
theorem so_ishl (B : pm_B p s m args meth c D ck n0 C cc nL own Ts G) {pc tg : Nat} {ls : pL} {st : List Value} {uc us : Nat} {S : pS}  (hd : pm_okI cc pc (.ishl) tg) (h : pm_ii st (fun x y r => pm_X p l e R s m args below meth c D n0 sa ck nL mc ms al Q (pc + 1) ls (.int (x <<< (y &&& 31)) :: r) uc us S)) : pm_X p l e R s m args below meth c D n0 sa ck nL mc ms al Q pc ls st uc us S := by
  intro lsA H locs hl hP hS
  obtain ⟨x, y, r, rfl, h⟩ := pm_ii_e h
  exact lv_ishl B.1 B.2.1 (hd.d rfl) (h lsA H locs hl hP hS)
theorem so_ishr (B : pm_B p s m args meth c D ck n0 C cc nL own Ts G) {pc tg : Nat} {ls : pL} {st : List Value} {uc us : Nat} {S : pS}  (hd : pm_okI cc pc (.ishr) tg) (h : pm_ii st (fun x y r => pm_X p l e R s m args below meth c D n0 sa ck nL mc ms al Q (pc + 1) ls (.int (x >>> (y &&& 31)) :: r) uc us S)) : pm_X p l e R s m args below meth c D n0 sa ck nL mc ms al Q pc ls st uc us S := by
  intro lsA H locs hl hP hS
  obtain ⟨x, y, r, rfl, h⟩ := pm_ii_e h
  exact lv_ishr B.1 B.2.1 (hd.d rfl) (h lsA H locs hl hP hS)
theorem so_iushr (B : pm_B p s m args meth c D ck n0 C cc nL own Ts G) {pc tg : Nat} {ls : pL} {st : List Value} {uc us : Nat} {S : pS}  (hd : pm_okI cc pc (.iushr) tg) (h : pm_ii st (fun x y r => pm_X p l e R s m args below meth c D n0 sa ck nL mc ms al Q (pc + 1) ls (.int (x.toUInt32 >>> (y.toUInt32 &&& Int32.toUInt32 31)).toInt32 :: r) uc us S)) : pm_X p l e R s m args below meth c D n0 sa ck nL mc ms al Q pc ls st uc us S := by
  intro lsA H locs hl hP hS
  obtain ⟨x, y, r, rfl, h⟩ := pm_ii_e h
  exact lv_iushr B.1 B.2.1 (hd.d rfl) rfl (h lsA H locs hl hP hS)
theorem so_idiv (B : pm_B p s m args meth c D ck n0 C cc nL own Ts G) {pc tg : Nat} {ls : pL} {st : List Value} {uc us : Nat} {S : pS}  (hd : pm_okI cc pc (.idiv) tg) (h : pm_ii st (fun x y r => ¬ y = 0 ∧ pm_X p l e R s m args below meth c D n0 sa ck nL mc ms al Q (pc + 1) ls (.int (x / y) :: r) uc us S)) : pm_X p l e R s m args below meth c D n0 sa ck nL mc ms al Q pc ls st uc us S := by
  intro lsA H locs hl hP hS
  obtain ⟨x, y, r, rfl, hy, h⟩ := pm_ii_e h
  exact lv_idiv B.1 B.2.1 (hd.d rfl) hy (h lsA H locs hl hP hS)
theorem so_irem (B : pm_B p s m args meth c D ck n0 C cc nL own Ts G) {pc tg : Nat} {ls : pL} {st : List Value} {uc us : Nat} {S : pS}  (hd : pm_okI cc pc (.irem) tg) (h : pm_ii st (fun x y r => ¬ y = 0 ∧ pm_X p l e R s m args below meth c D n0 sa ck nL mc ms al Q (pc + 1) ls (.int (x - x / y * y) :: r) uc us S)) : pm_X p l e R s m args below meth c D n0 sa ck nL mc ms al Q pc ls st uc us S := by
  intro lsA H locs hl hP hS
  obtain ⟨x, y, r, rfl, hy, h⟩ := pm_ii_e h
  exact lv_irem B.1 B.2.1 (hd.d rfl) hy (h lsA H locs hl hP hS)
theorem so_ladd (B : pm_B p s m args meth c D ck n0 C cc nL own Ts G) {pc tg : Nat} {ls : pL} {st : List Value} {uc us : Nat} {S : pS}  (hd : pm_okI cc pc (.ladd) tg) (h : pm_ll st (fun x y r => pm_X p l e R s m args below meth c D n0 sa ck nL mc ms al Q (pc + 1) ls (.long (x + y) :: r) uc us S)) : pm_X p l e R s m args below meth c D n0 sa ck nL mc ms al Q pc ls st uc us S := by
  intro lsA H locs hl hP hS
  obtain ⟨x, y, r, rfl, h⟩ := pm_ll_e h
  exact lv_ladd B.1 B.2.1 (hd.d rfl) (h lsA H locs hl hP hS)
theorem so_lsub (B : pm_B p s m args meth c D ck n0 C cc nL own Ts G) {pc tg : Nat} {ls : pL} {st : List Value} {uc us : Nat} {S : pS}  (hd : pm_okI cc pc (.lsub) tg) (h : pm_ll st (fun x y r => pm_X p l e R s m args below meth c D n0 sa ck nL mc ms al Q (pc + 1) ls (.long (x - y) :: r) uc us S)) : pm_X p l e R s m args below meth c D n0 sa ck nL mc ms al Q pc ls st uc us S := by
  intro lsA H locs hl hP hS
  obtain ⟨x, y, r, rfl, h⟩ := pm_ll_e h
  exact lv_lsub B.1 B.2.1 (hd.d rfl) (h lsA H locs hl hP hS)
theorem so_land (B : pm_B p s m args meth c D ck n0 C cc nL own Ts G) {pc tg : Nat} {ls : pL} {st : List Value} {uc us : Nat} {S : pS}  (hd : pm_okI cc pc (.land) tg) (h : pm_ll st (fun x y r => pm_X p l e R s m args below meth c D n0 sa ck nL mc ms al Q (pc + 1) ls (.long (x &&& y) :: r) uc us S)) : pm_X p l e R s m args below meth c D n0 sa ck nL mc ms al Q pc ls st uc us S := by
  intro lsA H locs hl hP hS
  obtain ⟨x, y, r, rfl, h⟩ := pm_ll_e h
  exact lv_land B.1 B.2.1 (hd.d rfl) (h lsA H locs hl hP hS)
theorem so_lor (B : pm_B p s m args meth c D ck n0 C cc nL own Ts G) {pc tg : Nat} {ls : pL} {st : List Value} {uc us : Nat} {S : pS}  (hd : pm_okI cc pc (.lor) tg) (h : pm_ll st (fun x y r => pm_X p l e R s m args below meth c D n0 sa ck nL mc ms al Q (pc + 1) ls (.long (x ||| y) :: r) uc us S)) : pm_X p l e R s m args below meth c D n0 sa ck nL mc ms al Q pc ls st uc us S := by
  intro lsA H locs hl hP hS
  obtain ⟨x, y, r, rfl, h⟩ := pm_ll_e h
  exact lv_lor B.1 B.2.1 (hd.d rfl) (h lsA H locs hl hP hS)
theorem so_lxor (B : pm_B p s m args meth c D ck n0 C cc nL own Ts G) {pc tg : Nat} {ls : pL} {st : List Value} {uc us : Nat} {S : pS}  (hd : pm_okI cc pc (.lxor) tg) (h : pm_ll st (fun x y r => pm_X p l e R s m args below meth c D n0 sa ck nL mc ms al Q (pc + 1) ls (.long (x ^^^ y) :: r) uc us S)) : pm_X p l e R s m args below meth c D n0 sa ck nL mc ms al Q pc ls st uc us S := by
  intro lsA H locs hl hP hS
  obtain ⟨x, y, r, rfl, h⟩ := pm_ll_e h
  exact lv_lxor B.1 B.2.1 (hd.d rfl) (h lsA H locs hl hP hS)
theorem so_lcmp (B : pm_B p s m args meth c D ck n0 C cc nL own Ts G) {pc tg : Nat} {ls : pL} {st : List Value} {uc us : Nat} {S : pS}  (hd : pm_okI cc pc (.lcmp) tg) (h : pm_ll st (fun x y r => pm_X p l e R s m args below meth c D n0 sa ck nL mc ms al Q (pc + 1) ls (.int (lg_cmp x y) :: r) uc us S)) : pm_X p l e R s m args below meth c D n0 sa ck nL mc ms al Q pc ls st uc us S := by
  intro lsA H locs hl hP hS
  obtain ⟨x, y, r, rfl, h⟩ := pm_ll_e h
  exact W.lcmp B.1 B.2.1 (hd.d rfl) (h lsA H locs hl hP hS)
theorem so_lshl (B : pm_B p s m args meth c D ck n0 C cc nL own Ts G) {pc tg : Nat} {ls : pL} {st : List Value} {uc us : Nat} {S : pS}  (hd : pm_okI cc pc (.lshl) tg) (h : pm_li st (fun x y r => pm_X p l e R s m args below meth c D n0 sa ck nL mc ms al Q (pc + 1) ls (.long (x <<< (y.toInt64 &&& 63)) :: r) uc us S)) : pm_X p l e R s m args below meth c D n0 sa ck nL mc ms al Q pc ls st uc us S := by
  intro lsA H locs hl hP hS
  obtain ⟨x, y, r, rfl, h⟩ := pm_li_e h
  exact lv_lshl B.1 B.2.1 (hd.d rfl) rfl (h lsA H locs hl hP hS)
theorem so_lushr (B : pm_B p s m args meth c D ck n0 C cc nL own Ts G) {pc tg : Nat} {ls : pL} {st : List Value} {uc us : Nat} {S : pS}  (hd : pm_okI cc pc (.lushr) tg) (h : pm_li st (fun x y r => pm_X p l e R s m args below meth c D n0 sa ck nL mc ms al Q (pc + 1) ls (.long (x.toUInt64 >>> (y.toInt64.toUInt64 &&& Int64.toUInt64 63)).toInt64 :: r) uc us S)) : pm_X p l e R s m args below meth c D n0 sa ck nL mc ms al Q pc ls st uc us S := by
  intro lsA H locs hl hP hS
  obtain ⟨x, y, r, rfl, h⟩ := pm_li_e h
  exact lv_lushr B.1 B.2.1 (hd.d rfl) rfl (h lsA H locs hl hP hS)
theorem so_i2l (B : pm_B p s m args meth c D ck n0 C cc nL own Ts G) {pc tg : Nat} {ls : pL} {st : List Value} {uc us : Nat} {S : pS}  (hd : pm_okI cc pc (.i2l) tg) (h : pm_i st (fun x r => pm_X p l e R s m args below meth c D n0 sa ck nL mc ms al Q (pc + 1) ls (.long x.toInt64 :: r) uc us S)) : pm_X p l e R s m args below meth c D n0 sa ck nL mc ms al Q pc ls st uc us S := by
  intro lsA H locs hl hP hS
  obtain ⟨x, r, rfl, h⟩ := pm_i_e h
  exact lv_i2l B.1 B.2.1 (hd.d rfl) rfl (h lsA H locs hl hP hS)
theorem so_l2i (B : pm_B p s m args meth c D ck n0 C cc nL own Ts G) {pc tg : Nat} {ls : pL} {st : List Value} {uc us : Nat} {S : pS}  (hd : pm_okI cc pc (.l2i) tg) (h : pm_l st (fun x r => pm_X p l e R s m args below meth c D n0 sa ck nL mc ms al Q (pc + 1) ls (.int x.toInt32 :: r) uc us S)) : pm_X p l e R s m args below meth c D n0 sa ck nL mc ms al Q pc ls st uc us S := by
  intro lsA H locs hl hP hS
  obtain ⟨x, r, rfl, h⟩ := pm_l_e h
  exact lv_l2i B.1 B.2.1 (hd.d rfl) rfl (h lsA H locs hl hP hS)
theorem so_i2c (B : pm_B p s m args meth c D ck n0 C cc nL own Ts G) {pc tg : Nat} {ls : pL} {st : List Value} {uc us : Nat} {S : pS}  (hd : pm_okI cc pc (.i2c) tg) (h : pm_i st (fun x r => pm_X p l e R s m args below meth c D n0 sa ck nL mc ms al Q (pc + 1) ls (.int (x.toUInt32 % 65536).toInt32 :: r) uc us S)) : pm_X p l e R s m args below meth c D n0 sa ck nL mc ms al Q pc ls st uc us S := by
  intro lsA H locs hl hP hS
  obtain ⟨x, r, rfl, h⟩ := pm_i_e h
  exact lv_i2c B.1 B.2.1 (hd.d rfl) rfl (h lsA H locs hl hP hS)
theorem so_dup (B : pm_B p s m args meth c D ck n0 C cc nL own Ts G) {pc tg : Nat} {ls : pL} {st : List Value} {uc us : Nat} {S : pS}  (hd : pm_okI cc pc (.dup) tg) (h : pm_dup st (fun v r => pm_X p l e R s m args below meth c D n0 sa ck nL mc ms al Q (pc + 1) ls (v :: v :: r) uc us S)) : pm_X p l e R s m args below meth c D n0 sa ck nL mc ms al Q pc ls st uc us S := by
  intro lsA H locs hl hP hS
  obtain ⟨v, r, rfl, hv, h⟩ := pm_dup_e h
  exact lv_dup B.1 B.2.1 (hd.d rfl) ((pm_v_cat n0 sa v).trans hv) (h lsA H locs hl hP hS)
theorem so_pop (B : pm_B p s m args meth c D ck n0 C cc nL own Ts G) {pc tg : Nat} {ls : pL} {st : List Value} {uc us : Nat} {S : pS}  (hd : pm_okI cc pc (.pop) tg) (h : pm_dup st (fun _ r => pm_X p l e R s m args below meth c D n0 sa ck nL mc ms al Q (pc + 1) ls r uc us S)) : pm_X p l e R s m args below meth c D n0 sa ck nL mc ms al Q pc ls st uc us S := by
  intro lsA H locs hl hP hS
  obtain ⟨v, r, rfl, hv, h⟩ := pm_dup_e h
  exact lv_pop B.1 B.2.1 (hd.d rfl) ((pm_v_cat n0 sa v).trans hv) (h lsA H locs hl hP hS)
theorem so_dup2 (B : pm_B p s m args meth c D ck n0 C cc nL own Ts G) {pc tg : Nat} {ls : pL} {st : List Value} {uc us : Nat} {S : pS}  (hd : pm_okI cc pc (.dup2) tg) (h : pm_dup2 st (fun v w r => pm_X p l e R s m args below meth c D n0 sa ck nL mc ms al Q (pc + 1) ls (v :: w :: v :: w :: r) uc us S)) : pm_X p l e R s m args below meth c D n0 sa ck nL mc ms al Q pc ls st uc us S := by
  intro lsA H locs hl hP hS
  obtain ⟨v, w, r, rfl, hv, hw, h⟩ := pm_dup2_e h
  exact lv_dup2_11 B.1 B.2.1 (hd.d rfl) ((pm_v_cat n0 sa v).trans hv) ((pm_v_cat n0 sa w).trans hw) (h lsA H locs hl hP hS)
theorem so_goto (B : pm_B p s m args meth c D ck n0 C cc nL own Ts G) {pc tg : Nat} {ls : pL} {st : List Value} {uc us : Nat} {S : pS} {o : Int} (hd : pm_okI cc pc (.goto o) tg) (h : pm_X p l e R s m args below meth c D n0 sa ck nL mc ms al Q tg ls st uc us S) : pm_X p l e R s m args below meth c D n0 sa ck nL mc ms al Q pc ls st uc us S := by
  intro lsA H locs hl hP hS
  exact lv_goto (tgt := tg) B.1 B.2.1 (hd.d rfl) (hd.2 _ rfl) (h lsA H locs hl hP hS)
theorem so_ifCond (B : pm_B p s m args meth c D ck n0 C cc nL own Ts G) {pc tg : Nat} {ls : pL} {st : List Value} {uc us : Nat} {S : pS} {o : Int} {cd : Jvm.ClassFile.Cond} (hd : pm_okI cc pc (.ifCond cd o) tg) (h : pm_i st (fun x r => pm_cd cd x 0 (pm_X p l e R s m args below meth c D n0 sa ck nL mc ms al Q tg ls r uc us S) (pm_X p l e R s m args below meth c D n0 sa ck nL mc ms al Q (pc + 3) ls r uc us S))) : pm_X p l e R s m args below meth c D n0 sa ck nL mc ms al Q pc ls st uc us S := by
  intro lsA H locs hl hP hS
  obtain ⟨x, r, rfl, h⟩ := pm_i_e h
  cases cd with
  | eq => exact lv_if_eq (tgt := tg) B.1 B.2.1 (hd.d rfl) (hd.2 _ rfl) (fun q => h.1 q lsA H locs hl hP hS) (fun q => h.2 q lsA H locs hl hP hS)
  | ne => exact lv_if_ne (tgt := tg) B.1 B.2.1 (hd.d rfl) (hd.2 _ rfl) (fun q => h.1 q lsA H locs hl hP hS) (fun q => h.2 q lsA H locs hl hP hS)
  | lt => exact lv_if_lt (tgt := tg) B.1 B.2.1 (hd.d rfl) (hd.2 _ rfl) (fun q => h.1 q lsA H locs hl hP hS) (fun q => h.2 q lsA H locs hl hP hS)
  | ge => exact lv_if_ge (tgt := tg) B.1 B.2.1 (hd.d rfl) (hd.2 _ rfl) (fun q => h.1 q lsA H locs hl hP hS) (fun q => h.2 q lsA H locs hl hP hS)
  | gt => exact lv_if_gt (tgt := tg) B.1 B.2.1 (hd.d rfl) (hd.2 _ rfl) (fun q => h.1 q lsA H locs hl hP hS) (fun q => h.2 q lsA H locs hl hP hS)
  | le => exact lv_if_le (tgt := tg) B.1 B.2.1 (hd.d rfl) (hd.2 _ rfl) (fun q => h.1 q lsA H locs hl hP hS) (fun q => h.2 q lsA H locs hl hP hS)
theorem so_if_icmp (B : pm_B p s m args meth c D ck n0 C cc nL own Ts G) {pc tg : Nat} {ls : pL} {st : List Value} {uc us : Nat} {S : pS} {o : Int} {cd : Jvm.ClassFile.Cond} (hd : pm_okI cc pc (.if_icmp cd o) tg) (h : pm_ii st (fun x y r => pm_cd cd x y (pm_X p l e R s m args below meth c D n0 sa ck nL mc ms al Q tg ls r uc us S) (pm_X p l e R s m args below meth c D n0 sa ck nL mc ms al Q (pc + 3) ls r uc us S))) : pm_X p l e R s m args below meth c D n0 sa ck nL mc ms al Q pc ls st uc us S := by
  intro lsA H locs hl hP hS
  obtain ⟨x, y, r, rfl, h⟩ := pm_ii_e h
  cases cd with
  | eq => exact lv_icmp_eq (tgt := tg) B.1 B.2.1 (hd.d rfl) (hd.2 _ rfl) (fun q => h.1 q lsA H locs hl hP hS) (fun q => h.2 q lsA H locs hl hP hS)
  | ne => exact lv_icmp_ne (tgt := tg) B.1 B.2.1 (hd.d rfl) (hd.2 _ rfl) (fun q => h.1 q lsA H locs hl hP hS) (fun q => h.2 q lsA H locs hl hP hS)
  | lt => exact lv_icmp_lt (tgt := tg) B.1 B.2.1 (hd.d rfl) (hd.2 _ rfl) (fun q => h.1 q lsA H locs hl hP hS) (fun q => h.2 q lsA H locs hl hP hS)
  | ge => exact lv_icmp_ge (tgt := tg) B.1 B.2.1 (hd.d rfl) (hd.2 _ rfl) (fun q => h.1 q lsA H locs hl hP hS) (fun q => h.2 q lsA H locs hl hP hS)
  | gt => exact lv_icmp_gt (tgt := tg) B.1 B.2.1 (hd.d rfl) (hd.2 _ rfl) (fun q => h.1 q lsA H locs hl hP hS) (fun q => h.2 q lsA H locs hl hP hS)
  | le => exact lv_icmp_le (tgt := tg) B.1 B.2.1 (hd.d rfl) (hd.2 _ rfl) (fun q => h.1 q lsA H locs hl hP hS) (fun q => h.2 q lsA H locs hl hP hS)
theorem so_tableswitch (B : pm_B p s m args meth c D ck n0 C cc nL own Ts G) {pc tg : Nat} {ls : pL} {st : List Value} {uc us : Nat} {S : pS} {df lo hi : Int} {os : Array Int} (hd : pm_okI cc pc (.tableswitch df lo hi os) tg) (h : pm_i st (fun x r => pm_sw x.toInt lo hi pc df os (fun t => pm_X p l e R s m args below meth c D n0 sa ck nL mc ms al Q t ls r uc us S))) : pm_X p l e R s m args below meth c D n0 sa ck nL mc ms al Q pc ls st uc us S := by
  intro lsA H locs hl hP hS
  obtain ⟨x, r, rfl, h2⟩ := pm_i_e h
  clear h
  have h := h2
  clear h2
  obtain ⟨⟨len, hd, -⟩, -⟩ := hd
  unfold pm_sw at h
  split at h
  · exact lv_tableOut (tgt := ((pc : Int) + df).toNat) B.1 B.2.1 hd ‹_› (by omega) (h.2 lsA H locs hl hP hS)
  · rename_i hn
    obtain ⟨o, ho, h0, h⟩ := pm_o_e h
    exact lv_tableIn (tgt := ((pc : Int) + o).toNat) B.1 B.2.1 hd (fun q => hn (Or.inl q)) (fun q => hn (Or.inr q)) ho (by omega) (h lsA H locs hl hP hS)
theorem so_caload (B : pm_B p s m args meth c D ck n0 C cc nL own Ts G) {pc tg : Nat} {ls : pL} {st : List Value} {uc us : Nat} {S : pS}  (hd : pm_okI cc pc (.caload) tg) (h : pm_ir st (fun i a r => pm_ar S a 2 (fun n f => pm_ix i n (pm_X p l e R s m args below meth c D n0 sa ck nL mc ms al Q (pc + 1) ls (.int (f i.toNatClampNeg) :: r) uc us S)))) : pm_X p l e R s m args below meth c D n0 sa ck nL mc ms al Q pc ls st uc us S := by
  intro lsA H locs hl hP hS
  obtain ⟨i, a, r, rfl, h⟩ := pm_ir_e h
  obtain ⟨ha, n, f, hf, hi, h⟩ := pm_ar_e h
  obtain ⟨hx, hb, hml, hown, hts, hr, hlocks, hex, hini, hK, hn0, hG⟩ := B
  exact va_cald (cA := ck 2) (n := n) (f := f) hx hb hK hP a 2 (by rw [pm_w_get ha, hf]; rfl) rfl hi (hd.d rfl) (h lsA H locs hl hP hS)
theorem so_baload (B : pm_B p s m args meth c D ck n0 C cc nL own Ts G) {pc tg : Nat} {ls : pL} {st : List Value} {uc us : Nat} {S : pS}  (hd : pm_okI cc pc (.baload) tg) (h : pm_ir st (fun i a r => pm_ar S a 3 (fun n f => pm_ix i n (pm_X p l e R s m args below meth c D n0 sa ck nL mc ms al Q (pc + 1) ls (.int (f i.toNatClampNeg) :: r) uc us S)))) : pm_X p l e R s m args below meth c D n0 sa ck nL mc ms al Q pc ls st uc us S := by
  intro lsA H locs hl hP hS
  obtain ⟨i, a, r, rfl, h⟩ := pm_ir_e h
  obtain ⟨ha, n, f, hf, hi, h⟩ := pm_ar_e h
  obtain ⟨hx, hb, hml, hown, hts, hr, hlocks, hex, hini, hK, hn0, hG⟩ := B
  exact va_zald (cA := ck 3) (n := n) (f := f) hx hb hK hP a 3 (by rw [pm_w_get ha, hf]; rfl) rfl hi (hd.d rfl) (h lsA H locs hl hP hS)
theorem so_laload (B : pm_B p s m args meth c D ck n0 C cc nL own Ts G) {pc tg : Nat} {ls : pL} {st : List Value} {uc us : Nat} {S : pS}  (hd : pm_okI cc pc (.laload) tg) (h : pm_ir st (fun i a r => pm_aj S a (fun n f => pm_ix i n (pm_X p l e R s m args below meth c D n0 sa ck nL mc ms al Q (pc + 1) ls (.long (f i.toNatClampNeg) :: r) uc us S)))) : pm_X p l e R s m args below meth c D n0 sa ck nL mc ms al Q pc ls st uc us S := by
  intro lsA H locs hl hP hS
  obtain ⟨i, a, r, rfl, h⟩ := pm_ir_e h
  obtain ⟨ha, n, f, hf, hi, h⟩ := pm_aj_e h
  obtain ⟨hx, hb, hml, hown, hts, hr, hlocks, hex, hini, hK, hn0, hG⟩ := B
  exact va_lald (cA := ck 1) (n := n) (f := f) hx hb hK hP a 1 (by rw [pm_w_get ha, hf]; rfl) rfl hi (hd.d rfl) (h lsA H locs hl hP hS)
theorem so_castore (B : pm_B p s m args meth c D ck n0 C cc nL own Ts G) {pc tg : Nat} {ls : pL} {st : List Value} {uc us : Nat} {S : pS}  (hd : pm_okI cc pc (.castore) tg) (h : pm_iir st (fun x i a r => pm_ar S a 2 (fun n f => pm_ix i n (pm_X p l e R s m args below meth c D n0 sa ck nL mc ms al Q (pc + 1) ls r uc us (pm_up S a (.inl (2, n, .inl (upd f i.toNatClampNeg (vp_nar .char x))))))))) : pm_X p l e R s m args below meth c D n0 sa ck nL mc ms al Q pc ls st uc us S := by
  intro lsA H locs hl hP hS
  obtain ⟨x, i, a, r, rfl, h⟩ := pm_iir_e h
  obtain ⟨ha, n, f, hf, hi, h⟩ := pm_ar_e h
  obtain ⟨hx, hb, hml, hown, hts, hr, hlocks, hex, hini, hK, hn0, hG⟩ := B
  refine va_cast (cA := ck 2) (n := n) (f := f) hx hb hK hP pm_w_D hS a 2 (by rw [pm_w_get ha, hf]; rfl) rfl hi (hd.d rfl) (fun H1 locs1 hP1 _ hS1 => ?_)
  exact h lsA H1 locs1 hl ((pm_w_set (n0 := n0) (sa := sa) (ck := ck) (S := S) (i := a) (.inl (2, n, .inl (upd f i.toNatClampNeg (vp_nar .char x))))) ▸ hP1) hS1
theorem so_bastore (B : pm_B p s m args meth c D ck n0 C cc nL own Ts G) {pc tg : Nat} {ls : pL} {st : List Value} {uc us : Nat} {S : pS}  (hd : pm_okI cc pc (.bastore) tg) (h : pm_iir st (fun x i a r => pm_ar S a 3 (fun n f => pm_ix i n (pm_X p l e R s m args below meth c D n0 sa ck nL mc ms al Q (pc + 1) ls r uc us (pm_up S a (.inl (3, n, .inl (upd f i.toNatClampNeg (vp_nar .boolean x))))))))) : pm_X p l e R s m args below meth c D n0 sa ck nL mc ms al Q pc ls st uc us S := by
  intro lsA H locs hl hP hS
  obtain ⟨x, i, a, r, rfl, h⟩ := pm_iir_e h
  obtain ⟨ha, n, f, hf, hi, h⟩ := pm_ar_e h
  obtain ⟨hx, hb, hml, hown, hts, hr, hlocks, hex, hini, hK, hn0, hG⟩ := B
  refine va_zast (cA := ck 3) (n := n) (f := f) hx hb hK hP pm_w_D hS a 3 (by rw [pm_w_get ha, hf]; rfl) rfl hi (hd.d rfl) (fun H1 locs1 hP1 _ hS1 => ?_)
  exact h lsA H1 locs1 hl ((pm_w_set (n0 := n0) (sa := sa) (ck := ck) (S := S) (i := a) (.inl (3, n, .inl (upd f i.toNatClampNeg (vp_nar .boolean x))))) ▸ hP1) hS1
theorem so_lastore (B : pm_B p s m args meth c D ck n0 C cc nL own Ts G) {pc tg : Nat} {ls : pL} {st : List Value} {uc us : Nat} {S : pS}  (hd : pm_okI cc pc (.lastore) tg) (h : pm_lir st (fun x i a r => pm_aj S a (fun n f => pm_ix i n (pm_X p l e R s m args below meth c D n0 sa ck nL mc ms al Q (pc + 1) ls r uc us (pm_up S a (.inl (1, n, .inr (vp_updL f i.toNatClampNeg x)))))))) : pm_X p l e R s m args below meth c D n0 sa ck nL mc ms al Q pc ls st uc us S := by
  intro lsA H locs hl hP hS
  obtain ⟨x, i, a, r, rfl, h⟩ := pm_lir_e h
  obtain ⟨ha, n, f, hf, hi, h⟩ := pm_aj_e h
  obtain ⟨hx, hb, hml, hown, hts, hr, hlocks, hex, hini, hK, hn0, hG⟩ := B
  refine va_last (cA := ck 1) (n := n) (f := f) hx hb hK hP pm_w_D hS a 1 (by rw [pm_w_get ha, hf]; rfl) rfl hi (hd.d rfl) (fun H1 locs1 hP1 _ hS1 => ?_)
  exact h lsA H1 locs1 hl ((pm_w_set (n0 := n0) (sa := sa) (ck := ck) (S := S) (i := a) (.inl (1, n, .inr (vp_updL f i.toNatClampNeg x)))) ▸ hP1) hS1
theorem so_arraylength (B : pm_B p s m args meth c D ck n0 C cc nL own Ts G) (hsc : pm_S0 s n0 sa C) {pc tg : Nat} {ls : pL} {st : List Value} {uc us : Nat} {S : pS} (hd : pm_okI cc pc .arraylength tg) (h : pm_al C S st (fun n r => pm_X p l e R s m args below meth c D n0 sa ck nL mc ms al Q (pc + 1) ls (.int (Int32.ofNat n) :: r) uc us S)) : pm_X p l e R s m args below meth c D n0 sa ck nL mc ms al Q pc ls st uc us S := by
  intro lsA H locs hl hP hS
  obtain ⟨hx, hb, hml, hown, hts, hr, hlocks, hex, hini, hK, hn0, hG⟩ := B
  rcases pm_al_e h with ⟨a, r, rfl, h2⟩ | ⟨r, L, xs, rfl, hs, h2⟩
  · clear h
    obtain ⟨ha, n, hf, h⟩ := pm_an_e h2
    rcases hf with ⟨k, f, hf, hk⟩ | ⟨f, hf⟩
    · rcases (by omega : k = 0 ∨ k = 1 ∨ k = 2 ∨ k = 3) with rfl | rfl | rfl | rfl
      · exact va_alen (cA := ck 0) (x := (n, .inl f)) hx hb hK hP a 0 (by rw [pm_w_get ha, hf]; rfl) rfl rfl (hd.d rfl) (h lsA H locs hl hP hS)
      · exact va_alen (cA := ck 1) (x := (n, .inl f)) hx hb hK hP a 1 (by rw [pm_w_get ha, hf]; rfl) rfl rfl (hd.d rfl) (h lsA H locs hl hP hS)
      · exact va_alen (cA := ck 2) (x := (n, .inl f)) hx hb hK hP a 2 (by rw [pm_w_get ha, hf]; rfl) rfl rfl (hd.d rfl) (h lsA H locs hl hP hS)
      · exact va_alen (cA := ck 3) (x := (n, .inl f)) hx hb hK hP a 3 (by rw [pm_w_get ha, hf]; rfl) rfl rfl (hd.d rfl) (h lsA H locs hl hP hS)
    · exact va_alen (cA := ck 1) (x := (n, .inr (.inl f))) hx hb hK hP a 1 (by rw [pm_w_get ha, hf]; rfl) rfl rfl (hd.d rfl) (h lsA H locs hl hP hS)
  · obtain ⟨g1, g2, g3, g4⟩ := hsc L xs hs
    exact va_slen hx hb g1 g2 g3 hS (hd.d rfl) (h2 lsA H locs hl hP hS)
theorem so_lreturn (B : pm_B p s m args meth c D ck n0 C cc nL own Ts G) {pc tg : Nat} {ls : pL} {st : List Value} {uc us : Nat} {S : pS} (hu : uc ≤ mc ∧ us ≤ ms) (hd : pm_okI cc pc .lreturn tg) (h : pm_l st (fun x r => r = [] ∧ pc_rt C = some .long ∧ (al = false → uc = 0 ∧ us = 0) ∧ Q (.inl (some (.long x))) S)) : pm_X p l e R s m args below meth c D n0 sa ck nL mc ms al Q pc ls st uc us S := by
  intro lsA H locs hl hP hS
  obtain ⟨x, r, rfl, h0, h1, ha, h2⟩ := pm_l_e h
  subst h0
  clear h
  have h := h2
  obtain ⟨hx, hb, hml, hown, hts, hr, hlocks, hex, hini, hK, hn0, hG⟩ := B
  refine pm_ends (al := al) ha (fun hsm => ?_)
  refine W.widen (k := mc) (n := ms) hu.1 hu.2 (vx_ret ?_)
  exact W.lret (v := x) hx hb (hr.trans h1) (fun t ht hW => ⟨fun q => hsm q t ht, ⟨some (.long x), S, rfl, h, by rw [ht]; exact hP⟩, hS.F ht⟩) hS.2.2 (hd.d rfl) hlocks
theorem so_return (B : pm_B p s m args meth c D ck n0 C cc nL own Ts G) {pc tg : Nat} {ls : pL} {st : List Value} {uc us : Nat} {S : pS} (hu : uc ≤ mc ∧ us ≤ ms) (hd : pm_okI cc pc .return_ tg) (h : st = [] ∧ pc_rt C = none ∧ (al = false → uc = 0 ∧ us = 0) ∧ Q (.inl none) S) : pm_X p l e R s m args below meth c D n0 sa ck nL mc ms al Q pc ls st uc us S := by
  intro lsA H locs hl hP hS
  obtain ⟨rfl, h1, ha, h⟩ := h
  obtain ⟨hx, hb, hml, hown, hts, hr, hlocks, hex, hini, hK, hn0, hG⟩ := B
  refine pm_ends (al := al) ha (fun hsm => ?_)
  refine W.widen (k := mc) (n := ms) hu.1 hu.2 (vx_ret ?_)
  exact W.vret hx hb (hr.trans h1) (fun t ht hW => ⟨fun q => hsm q t ht, ⟨none, S, rfl, h, by rw [ht]; exact hP⟩, hS.F ht⟩) hS.2.2 (hd.d rfl) hlocks
end PMT
