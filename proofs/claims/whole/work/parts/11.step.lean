def pm_okM (own : String) (TW : List Cond) (Y : pY) (n0 : Nat) (sa : Nat → Nat) (s : State) (i : Nat) (q : Nat × Nat × Nat × Nat) : Prop :=
  (q.1 = 0 → pm_okY Y TW q.2.1 q.2.2.1 ∧ pm_hh q.2.1 = [] ∧ Cond.methodLink own i (Y q.2.1).1 ∈ TW ∧ Cond.static (Y q.2.1).1 ∈ TW) ∧
  (q.1 = 1 → pm_okY Y TW q.2.1 q.2.2.1 ∧ pm_hh q.2.1 = [] ∧ Cond.methodLink own i (Y q.2.1).1 ∈ TW ∧ Cond.instanceMethod (Y q.2.1).1 ∈ TW ∧ Cond.selects (Y q.2.1).1.cls (Y q.2.1).1 (Y q.2.1).1 ∈ TW ∧ ∃ (T : u_T) (N : Nat), vwCl[q.2.2.2]? = some ((Y q.2.1).1.cls, T, N)) ∧
  (q.1 = 2 → pm_okY Y TW q.2.1 q.2.2.1 ∧ pm_hh q.2.1 = [] ∧ (Y q.2.1).1.name = "<init>" ∧ (Y q.2.1).2.2.2 = none ∧ Cond.instanceMethod (Y q.2.1).1 ∈ TW ∧ ∃ host, va_Nw (.methodLinkNest own i (Y q.2.1).1 host) s) ∧
  (q.1 = 3 → Cond.methodLink own i Lib.objectInit ∈ TW ∧ Cond.instanceMethod Lib.objectInit ∈ TW ∧ Cond.code Lib.objectInit ⟨#[0xb1]⟩ 1 none ∈ TW) ∧
  (q.1 = 4 → Cond.methodLink own i arraycopyName ∈ TW ∧ Cond.native arraycopyName ∈ TW ∧ Cond.static arraycopyName ∈ TW ∧ Cond.initialized "java/lang/System" ∈ TW) ∧
  (q.1 = 5 → pm_okY Y TW q.2.1 q.2.2.1 ∧ pm_hh q.2.1 = [] ∧ (Y q.2.1).1.name = "<init>" ∧ (Y q.2.1).2.2.2 = none ∧ Cond.methodLink own i (Y q.2.1).1 ∈ TW ∧ Cond.instanceMethod (Y q.2.1).1 ∈ TW) ∧
  (q.1 = 6 → pm_okY Y TW q.2.1 q.2.2.1 ∧ pm_hh q.2.1 = [] ∧ Cond.methodLink own i (Y q.2.1).1 ∈ TW ∧ Cond.instanceMethod (Y q.2.1).1 ∈ TW ∧ Cond.selects (Y q.2.1).1.cls (Y q.2.1).1 (Y q.2.1).1 ∈ TW ∧ ∀ b H locs, b < 26 → va_S (fun q => n0 ≤ q) s.heap H locs → ∃ cell : Cell, H[sa b]? = some cell ∧ cell.vm.isStatics = false ∧ s.vm.findClass (Y q.2.1).1.cls = some cell.cls) ∧
  (q.1 = 7 → Cond.methodLink own i Lib.Math.max.name ∈ TW ∧ Cond.static Lib.Math.max.name ∈ TW ∧ Cond.initialized "java/lang/Math" ∈ TW ∧ Cond.code Lib.Math.max.name Lib.Math.max.code 2 (some .int) ∈ TW) ∧
  (q.1 = 8 → Cond.methodLink own i Lib.Math.min.name ∈ TW ∧ Cond.static Lib.Math.min.name ∈ TW ∧ Cond.initialized "java/lang/Math" ∈ TW ∧ Cond.code Lib.Math.min.name Lib.Math.min.code 2 (some .int) ∈ TW) ∧
  (q.1 = 9 → pm_okY Y TW q.2.1 q.2.2.1 ∧ pm_hh q.2.1 ≠ [] ∧ Cond.methodLink own i (Y q.2.1).1 ∈ TW ∧ Cond.static (Y q.2.1).1 ∈ TW)
/-- all that a method's tables must be -/
def pm_T (l : Launch) (s : State) (args : Array Value) (n0 : Nat) (sa : Nat → Nat) (C : pC) (cc : ByteArray) (own : String) (Ts TW : List Cond) (Y : pY) : Prop :=
  (∀ pc ins tg, pc_in C pc = some (ins, tg) → pm_okI cc pc ins tg) ∧ (∀ i ci k, pc_fl C i = some (ci, k) → pm_okF own Ts (pc_ini C) i ci k) ∧ (∀ i q, pc_ml C i = some q → pm_okM own TW Y n0 sa s i q) ∧ (∀ i v, pc_kc C i = some v → pm_okK own Ts sa s i v) ∧ (∀ pc i tg, pc_in C pc = some (.ldc_w i, tg) → ∀ k, pc_kc C i ≠ some (.retAddr k)) ∧
  (∀ i ci fs, pc_nw C i = some (ci, fs) → pm_okN own Ts i ci fs) ∧ (∀ pc E, pc_th C pc = some E → pm_okX l cc own n0 s args pc E) ∧ (∀ t, Cond.arrayClass (newarray.typeOf t) ∈ Ts ∨ pm_akd t = none) ∧ pm_okC Ts ∧ pm_TW TW Ts ∧ pm_S0 s n0 sa C
theorem pm_sound_step {p : Program} {l : Launch} {e : Env} {s : State} {m : MethodId} {args : Array Value} {below : List Frame} {meth : Method} {c : Code} {D : va_G} {n0 : Nat} {sa : Nat → Nat} {ck : Nat → ClassId} {nL mc ms : Nat} {ak : Bool × Bool} {Q : pQ} {C : pC} {cc : ByteArray} {own : String} {Ts TW : List Cond} {G : State → Prop} {Y : pY} {cost : Nat → Nat × Nat × Bool × Bool} {d : Nat} (B : pm_B p s m args meth c D ck n0 C cc nL own Ts G) (hT : pm_T l s args n0 sa C cc own Ts TW Y) (hGm : pm_Gm n0 G) {call : pCall} (hcall : ∀ j as S Q, call j as S Q → pm_Met l D n0 sa ck G TW Y cost d j as S Q) {nxe : Nat} (hal : ak.1 = true → s.heap.size ≤ n0 + nxe)
    (pc : Nat) (ls : pL) (st : List Value) (uc us : Nat) (S : pS) (h : pm_step C (d + 1) call cost ak nxe mc ms Q (fun pc ls st uc us S => uc ≤ mc ∧ us ≤ ms → pm_X p l e (pm_R (d + 1) mc ms) s m args below meth c D n0 sa ck nL mc ms ak.2 Q pc ls st uc us S) pc ls st uc us S) : uc ≤ mc ∧ us ≤ ms → pm_X p l e (pm_R (d + 1) mc ms) s m args below meth c D n0 sa ck nL mc ms ak.2 Q pc ls st uc us S := by
  intro hu
  obtain ⟨hI, hF, hM, hKc, hKw, hNw, hTh, hAr, hC, hTW, hsc⟩ := hT
  have hX : ∀ pc ls st uc us S, uc ≤ mc ∧ us ≤ ms → (uc ≤ mc ∧ us ≤ ms → pm_X p l e (pm_R (d + 1) mc ms) s m args below meth c D n0 sa ck nL mc ms ak.2 Q pc ls st uc us S) → pm_X p l e (pm_R (d + 1) mc ms) s m args below meth c D n0 sa ck nL mc ms ak.2 Q pc ls st uc us S := fun _ _ _ _ _ _ hb h => h hb
  unfold pm_step at h
  cases hin : pc_in C pc with
  | none => rw [hin] at h; exact h.elim
  | some q =>
    obtain ⟨ins, tg⟩ := q
    rw [hin] at h
    have hd := hI _ _ _ hin
    cases ins with
    | iconst n => exact so_iconst B hd (h hu)
    | bipush n => exact so_bipush B hd (h hu)
    | sipush n => exact so_sipush B hd (h hu)
    | lconst n => exact so_lconst B hd (h hu)
    | ldc i => exact so_ldc B hd (fun v hv => hKc _ _ hv) (pm_ki_m (fun _ q => q hu) h)
    | ldc_w i => exact so_ldc_w B hd (fun v hv => hKc _ _ hv) (hKw _ _ _ hin) (pm_ki_m (fun _ q => q hu) h)
    | ldc2_w i => exact so_ldc2_w B hd (fun v hv => hKc _ _ hv) (pm_kl_m (fun _ q => q hu) h)
    | iload i => exact so_iload B hd (pm_gi_m (fun _ q => q hu) h)
    | iload_n i => exact so_iload_n B hd (pm_gi_m (fun _ q => q hu) h)
    | lload i => exact so_lload B hd (pm_gl_m (fun _ q => q hu) h)
    | lload_n i => exact so_lload_n B hd (pm_gl_m (fun _ q => q hu) h)
    | aload i => exact so_aload B hd (pm_ga_m (fun _ q => q hu) h)
    | aload_n i => exact so_aload_n B hd (pm_ga_m (fun _ q => q hu) h)
    | istore i => exact so_istore B hd (pm_i_m (fun _ _ q => ⟨q.1, q.2 hu⟩) h)
    | istore_n i => exact so_istore_n B hd (pm_i_m (fun _ _ q => ⟨q.1, q.2 hu⟩) h)
    | lstore i => exact so_lstore B hd (pm_l_m (fun _ _ q => ⟨q.1, q.2 hu⟩) h)
    | lstore_n i => exact so_lstore_n B hd (pm_l_m (fun _ _ q => ⟨q.1, q.2 hu⟩) h)
    | astore i => exact so_astore B hd (pm_a_m (fun _ _ q => ⟨q.1, q.2 hu⟩) h)
    | astore_n i => exact so_astore_n B hd (pm_a_m (fun _ _ q => ⟨q.1, q.2 hu⟩) h)
    | iinc i n => exact so_iinc B hd (pm_gi_m (fun _ q => ⟨q.1, q.2 hu⟩) h)
    | iadd => exact so_iadd B hd (pm_ii_m (fun _ _ _ q => q hu) h)
    | isub => exact so_isub B hd (pm_ii_m (fun _ _ _ q => q hu) h)
    | imul => exact so_imul B hd (pm_ii_m (fun _ _ _ q => q hu) h)
    | idiv => exact so_idiv B hd (pm_ii_m (fun _ _ _ q => ⟨q.1, q.2 hu⟩) h)
    | irem => exact so_irem B hd (pm_ii_m (fun _ _ _ q => ⟨q.1, q.2 hu⟩) h)
    | iand => exact so_iand B hd (pm_ii_m (fun _ _ _ q => q hu) h)
    | ior => exact so_ior B hd (pm_ii_m (fun _ _ _ q => q hu) h)
    | ixor => exact so_ixor B hd (pm_ii_m (fun _ _ _ q => q hu) h)
    | ishl => exact so_ishl B hd (pm_ii_m (fun _ _ _ q => q hu) h)
    | ishr => exact so_ishr B hd (pm_ii_m (fun _ _ _ q => q hu) h)
    | iushr => exact so_iushr B hd (pm_ii_m (fun _ _ _ q => q hu) h)
    | ladd => exact so_ladd B hd (pm_ll_m (fun _ _ _ q => q hu) h)
    | lsub => exact so_lsub B hd (pm_ll_m (fun _ _ _ q => q hu) h)
    | land => exact so_land B hd (pm_ll_m (fun _ _ _ q => q hu) h)
    | lor => exact so_lor B hd (pm_ll_m (fun _ _ _ q => q hu) h)
    | lxor => exact so_lxor B hd (pm_ll_m (fun _ _ _ q => q hu) h)
    | lshl => exact so_lshl B hd (pm_li_m (fun _ _ _ q => q hu) h)
    | lushr => exact so_lushr B hd (pm_li_m (fun _ _ _ q => q hu) h)
    | lcmp => exact so_lcmp B hd (pm_ll_m (fun _ _ _ q => q hu) h)
    | i2l => exact so_i2l B hd (pm_i_m (fun _ _ q => q hu) h)
    | l2i => exact so_l2i B hd (pm_l_m (fun _ _ q => q hu) h)
    | i2c => exact so_i2c B hd (pm_i_m (fun _ _ q => q hu) h)
    | dup => exact so_dup B hd (pm_dup_m (fun _ _ q => q hu) h)
    | pop => exact so_pop B hd (pm_dup_m (fun _ _ q => q hu) h)
    | dup2 => exact so_dup2 B hd (pm_dup2_m (fun _ _ _ q => q hu) h)
    | goto o => exact so_goto B hd (h hu)
    | ifCond cd o => exact so_ifCond B hd (pm_i_m (fun _ _ => pm_cd_m (fun q => q hu) (fun q => q hu)) h)
    | if_icmp cd o => exact so_if_icmp B hd (pm_ii_m (fun _ _ _ => pm_cd_m (fun q => q hu) (fun q => q hu)) h)
    | tableswitch df lo hi os => exact so_tableswitch B hd (pm_i_m (fun _ _ => pm_sw_m (fun _ q => q hu)) h)
    | getfield i =>
      obtain ⟨⟨ci, k⟩, hq, h1⟩ := pm_o_e h
      exact so_getfield B hC hd (hF _ _ _ hq) (pm_r_m (fun _ _ => pm_ob_m (fun _ => pm_o_m (fun _ q => q hu))) h1)
    | putfield i =>
      obtain ⟨⟨ci, k⟩, hq, h1⟩ := pm_o_e h
      exact so_putfield B hC hd (hF _ _ _ hq) (pm_vr_m (fun _ _ _ => pm_ob_m (fun _ z => ⟨z.1, pm_o_m (fun _ q => ⟨q.1, q.2.1, q.2.2 hu⟩) z.2⟩)) h1)
    | iaload => exact so_iaload B hsc hd (pm_ia_m (fun _ _ q => q hu) h)
    | caload => exact so_caload B hd (pm_ir_m (fun _ _ _ => pm_ar_m (fun _ _ => pm_ix_m (fun q => q hu))) h)
    | baload => exact so_baload B hd (pm_ir_m (fun _ _ _ => pm_ar_m (fun _ _ => pm_ix_m (fun q => q hu))) h)
    | laload => exact so_laload B hd (pm_ir_m (fun _ _ _ => pm_aj_m (fun _ _ => pm_ix_m (fun q => q hu))) h)
    | iastore => exact so_iastore B hd (pm_iir_m (fun _ _ _ _ => pm_ar_m (fun _ _ => pm_ix_m (fun q => q hu))) h)
    | castore => exact so_castore B hd (pm_iir_m (fun _ _ _ _ => pm_ar_m (fun _ _ => pm_ix_m (fun q => q hu))) h)
    | bastore => exact so_bastore B hd (pm_iir_m (fun _ _ _ _ => pm_ar_m (fun _ _ => pm_ix_m (fun q => q hu))) h)
    | lastore => exact so_lastore B hd (pm_lir_m (fun _ _ _ _ => pm_aj_m (fun _ _ => pm_ix_m (fun q => q hu))) h)
    | arraylength => exact so_arraylength B hsc hd (pm_al_m (fun _ _ q => q hu) h)
    | invokestatic i =>
      obtain ⟨⟨kd, j, n, ci⟩, hq, h1⟩ := pm_o_e h
      obtain ⟨m0, m1, m2, m3, m4, m5, m6, m7, m8, m9⟩ := hM _ _ hq
      clear h
      dsimp only at h1
      split at h1
      · obtain ⟨g1, g0, g2, g3⟩ := m0 rfl
        exact so_static B hTW hGm hcall hal hX hd g1 g0 g2 g3 h1
      · obtain ⟨hd3, h1⟩ := h1
        obtain ⟨g1, g2, g3, g4⟩ := m4 rfl
        exact so_cpy B hTW hd g1 g2 g3 g4 ⟨hd3, pm_cpy_m (fun _ _ _ z => ⟨z.1, z.2 hu⟩) h1⟩
      · obtain ⟨hd2, h1⟩ := h1
        obtain ⟨g1, g2, g3, g4⟩ := m7 rfl
        exact so_max B hTW hu hd g1 g2 g3 g4 ⟨hd2, pm_ii_m (fun _ _ _ z => ⟨z.1, z.2 hu⟩) h1⟩
      · obtain ⟨hd2, h1⟩ := h1
        obtain ⟨g1, g2, g3, g4⟩ := m8 rfl
        exact so_min B hTW hu hd g1 g2 g3 g4 ⟨hd2, pm_ii_m (fun _ _ _ z => ⟨z.1, z.2 hu⟩) h1⟩
      · obtain ⟨g1, g0, g2, g3⟩ := m9 rfl
        exact so_helper B hTW hGm hcall hal hX hd g1 g0 g2 g3 h1
      · exact h1.elim
    | invokevirtual i =>
      obtain ⟨⟨kd, j, n, ci⟩, hq, h1⟩ := pm_o_e h
      obtain ⟨m0, m1, m2, m3, m4, m5, m6, m7, m8, m9⟩ := hM _ _ hq
      clear h
      dsimp only at h1
      split at h1
      · obtain ⟨g1, g0, g2, g3, g4, T, N, g5⟩ := m1 rfl
        exact so_virtual B hTW hGm hcall hal hX hd g1 g0 g2 g3 g4 g5 h1
      · obtain ⟨g1, g0, g2, g3, g4, g5⟩ := m6 rfl
        exact so_text B hTW hGm hcall hal hX hd g1 g0 g2 g3 g4 g5 h1
      · exact h1.elim
    | invokespecial i =>
      obtain ⟨⟨kd, j, n, ci⟩, hq, h1⟩ := pm_o_e h
      obtain ⟨m0, m1, m2, m3, m4, m5, m6, m7, m8, m9⟩ := hM _ _ hq
      clear h
      dsimp only at h1
      split at h1
      · obtain ⟨g1, g0, g2, g3, g4, host, g5⟩ := m2 rfl
        exact so_init B hTW hGm hcall hal hX hd g1 g0 g2 g3 g5 g4 h1
      · obtain ⟨hd2, h1⟩ := h1
        obtain ⟨g1, g2, g3⟩ := m3 rfl
        exact so_objInit B hTW hd g1 g2 g3 ⟨hd2, pm_r_m (fun _ _ z => ⟨z.1, z.2.1, z.2.2 hu⟩) h1⟩
      · obtain ⟨g1, g0, g2, g3, g4, g5⟩ := m5 rfl
        exact so_init5 B hTW hGm hcall hal hX hd g1 g0 g2 g3 g4 g5 h1
      · exact h1.elim
    | new i =>
      cases hth : pc_th C pc with
      | some E =>
        dsimp only at h
        rw [hth] at h
        exact so_throw B hth (hTh _ _ hth) h
      | none =>
        dsimp only at h
        rw [hth] at h
        obtain ⟨⟨ci, fs⟩, hq, h1, h2, h3, h4⟩ := pm_o_e h
        exact so_new B hC hal hd (hNw _ _ _ hq) ⟨h1, h2, h3, h4 ⟨h1, h2⟩⟩
    | newarray t =>
      refine so_newarray B hal hd ?_ (pm_o_m (fun _ => pm_i_m (fun _ _ z => ⟨z.1, z.2.1, z.2.2.1, z.2.2.2.1, z.2.2.2.2.1, z.2.2.2.2.2 ⟨z.2.2.1, z.2.2.2.1⟩⟩)) h)
      rcases hAr t with g | g
      · exact g
      · obtain ⟨_, hq, -⟩ := pm_o_e h
        rw [g] at hq
        cases hq
    | ireturn => exact so_ireturn B hu hd h
    | lreturn => exact so_lreturn B hu hd h
    | return_ => exact so_return B hu hd h
    | _ => exact h.elim
def pm_slt (n0 : Nat) (sa : Nat → Nat) (o : Option Value) : Slot := match o with
  | some v => .val (pm_v n0 sa v)
  | none => .second
theorem pm_sl_map (n0 : Nat) (sa : Nat → Nat) (as : List Value) : lg_sl (as.map (pm_v n0 sa)) = (as.flatMap pm_sl).map (pm_slt n0 sa) := by
  induction as with
  | nil => rfl
  | cons v t ih =>
    have e1 : lg_sl ((v :: t).map (pm_v n0 sa)) = (if (pm_v n0 sa v).category = 2 then [Slot.val (pm_v n0 sa v), .second] else [.val (pm_v n0 sa v)]) ++ lg_sl (t.map (pm_v n0 sa)) := rfl
    have e2 : (v :: t).flatMap pm_sl = pm_sl v ++ t.flatMap pm_sl := rfl
    rw [e1, e2, ih, List.map_append, pm_v_cat]
    congr 1
    unfold pm_sl
    split <;> rfl
theorem pm_ent_lr {n0 : Nat} {sa : Nat → Nat} {nL : Nat} {as : List Value} (hlen : (as.flatMap pm_sl).length ≤ nL) : pm_lr n0 sa (lg_sl (as.map (pm_v n0 sa)) ++ List.replicate (nL - (lg_sl (as.map (pm_v n0 sa))).length) Slot.unset).toArray nL (pm_ent nL as) := by
  have hl := lv_entry (as.map (pm_v n0 sa)) (n := nL) (by rw [pm_sl_map, List.length_map]; exact hlen)
  refine ⟨by unfold pm_ent; rw [List.length_append, List.length_replicate]; omega, hl.1, hl.2.1, fun i v hi => ?_⟩
  unfold pm_get pm_ent at hi
  rw [List.getElem?_toArray, pm_sl_map]
  by_cases h : i < (as.flatMap pm_sl).length
  · rw [List.getElem?_append_left h] at hi
    rw [List.getElem?_append_left (by rw [List.length_map]; exact h), List.getElem?_map]
    cases hq : (as.flatMap pm_sl)[i]? with
    | none => rw [hq] at hi; cases hi
    | some o =>
      rw [hq] at hi
      cases o with
      | none => cases hi
      | some w => cases hi; rfl
  · rw [List.getElem?_append_right (Nat.not_lt.mp h), List.getElem?_replicate] at hi
    split at hi <;> cases hi
/-- a method at a depth: what the pure machine says of it the machine does -/
theorem pm_sound_body {l : Launch} {D : va_G} {n0 : Nat} {sa : Nat → Nat} {ck : Nat → ClassId} {G : State → Prop} {TW : List Cond} {Y : pY} {cost : Nat → Nat × Nat × Bool × Bool} {d j : Nat} {C : pC} {own : String} (hGm : pm_Gm n0 G) (hown : (Y j).1.cls = own) (hpl : plainName (Y j).1.cls = true) (hrt : (Y j).2.2.2 = pc_rt C) (hini : pc_ini C = true → (Y j).1.name = "<init>")
    (hT : ∀ s args, (∀ w ∈ pm_ws Y TW j, w.before args s = true) → G s → pm_T l s args n0 sa C (Y j).2.1 own (pm_ws Y TW j) TW Y)
    (hH : ∀ s args (c : Code), (∀ w ∈ pm_ws Y TW j, w.before args s = true) → G s → c.exceptionTable.toList = tableOf (pm_hh j) → ∀ pc E, pm_okH c (Y j).2.1 (Y j).2.2.1 own args s pc E (pc_hd C pc E)) (hN : pm_hh j ≠ [] → ∀ pc, pc_th C pc = none)
    {call : pCall} (hcall : ∀ j as S Q, call j as S Q → pm_Met l D n0 sa ck G TW Y cost d j as S Q) {as : List Value} {S : pS} {Q : pQ} (hlen : (as.flatMap pm_sl).length ≤ (Y j).2.2.1)
    (h : pm_ev C (d + 1) call cost (cost j).2.2 S.1 (cost j).1 (cost j).2.1 Q 0 (pm_ent (Y j).2.2.1 as) [] 0 0 S) : pm_Met l D n0 sa ck G TW Y cost (d + 1) j as S Q := by
  have main : ∀ p e s m args below meth c s₁, BodyLoose p l (Y j).1 (headSpec (pm_ws Y TW j) (pm_R (d + 1) (cost j).1 (cost j).2.1)) (Y j).2.1 (Y j).2.2.1 (Y j).2.2.2 e s m args below meth c s₁ → c.maxLocals = (Y j).2.2.1 → c.exceptionTable.toList = tableOf (pm_hh j) → pm_Pc D n0 sa ck G as S (cost j).2.2.1 args s →
      W p l e (headSpec (pm_ws Y TW j) (pm_R (d + 1) (cost j).1 (cost j).2.1)).room s m args below meth c s.heap [] 0 0 (vx_MQ below (pm_Qc D n0 sa ck (cost j).2.2.2 Q) (pm_XC D n0 sa ck Q) args s (cost j).1 (cost j).2.1 (fun q => n0 ≤ q)) (entryFrame m args (Y j).2.2.1) := by
    intro p e s m args below meth c s₁ Bd hml hex hv
    obtain ⟨rfl, hn0, hsz, hP, hK, hG⟩ := hv
    have hts := atoms_spec (ws := pm_ws Y TW j) Bd.pre
    have hownc : s.vm.findClass own = some m.cls := by rw [← hown]; exact findClass_of_methodNamed Bd.named
    have hno : ∀ pc E, pc_th C pc = some E → ∀ x ∈ c.exceptionTable.toList, False := by
      intro pc E hpc x hx
      by_cases hhj : pm_hh j = []
      · rw [hex, hhj] at hx
        cases hx
      · rw [hN hhj pc] at hpc
        cases hpc
    have B : pm_B p s m (as.map (pm_v n0 sa)).toArray meth c D ck n0 C (Y j).2.1 (Y j).2.2.1 own (pm_ws Y TW j) G := ⟨Bd.exec, Bd.bytes, hml, hownc, hts, Bd.returns.trans hrt, Bd.notSynchronized, ⟨hH s _ c hts hG hex, hno⟩, fun q => (name_of_methodNamed Bd.named Bd.method).1.trans (hini q), hK, hn0, hG⟩
    have key := h (fun pc ls st uc us S => uc ≤ (cost j).1 ∧ us ≤ (cost j).2.1 → pm_X p l e (pm_R (d + 1) (cost j).1 (cost j).2.1) s m (as.map (pm_v n0 sa)).toArray below meth c D n0 sa ck (Y j).2.2.1 (cost j).1 (cost j).2.1 (cost j).2.2.2 Q pc ls st uc us S) (fun pc ls st uc us S' q => pm_sound_step B (hT s _ hts hG) hGm hcall hsz pc ls st uc us S' q) ⟨Nat.zero_le _, Nat.zero_le _⟩
    rw [lg_entry_eq]
    exact key _ s.heap [] (pm_ent_lr hlen) hP va_S.rf
  by_cases hhj : pm_hh j = []
  · refine vx_ofW (cc := (Y j).2.1) (maxL := (Y j).2.2.1) (ret := (Y j).2.2.2) hpl (pm_ws0 hhj) ?_
    intro p e s m args below meth c s₁ Bd hml hex hv
    refine main p e s m args below meth c s₁ Bd hml ?_ hv
    rw [hhj]
    cases ht : c.exceptionTable.toList with
    | nil => rfl
    | cons x r => exact (hex x (by rw [ht]; exact List.mem_cons_self)).elim
  · refine vx_ofWH (cc := (Y j).2.1) (maxL := (Y j).2.2.1) (ret := (Y j).2.2.2) (hh := pm_hh j) hpl (pm_ws1 hhj) ?_
    intro p e s m args below meth c s₁ Bd hml hv
    exact main p e s m args below meth c s₁ Bd hml (vx_table (x := (Y j).1) Bd (atoms_spec (ws := pm_ws Y TW j) Bd.pre _ (by rw [pm_ws1 hhj]; exact List.mem_cons_self))) hv
/-- THE CARRYING OVER: every call of the pure machine is the machine's -/
theorem pm_sound {l : Launch} {D : va_G} {n0 : Nat} {sa : Nat → Nat} {ck : Nat → ClassId} {G : State → Prop} {TW : List Cond} {Y : pY} {cost : Nat → Nat × Nat × Bool × Bool} {M : Nat → Option (pC × Nat)} {ext : pCall} (hGm : pm_Gm n0 G)
    (hM : ∀ j C nL, M j = some (C, nL) → nL = (Y j).2.2.1 ∧ plainName (Y j).1.cls = true ∧ (Y j).2.2.2 = pc_rt C ∧ (pc_ini C = true → (Y j).1.name = "<init>") ∧ ∀ s args, (∀ w ∈ pm_ws Y TW j, w.before args s = true) → G s → pm_T l s args n0 sa C (Y j).2.1 (Y j).1.cls (pm_ws Y TW j) TW Y)
    (hH : ∀ j C nL, M j = some (C, nL) → (∀ s args (c : Code), (∀ w ∈ pm_ws Y TW j, w.before args s = true) → G s → c.exceptionTable.toList = tableOf (pm_hh j) → ∀ pc E, pm_okH c (Y j).2.1 (Y j).2.2.1 (Y j).1.cls args s pc E (pc_hd C pc E)) ∧ (pm_hh j ≠ [] → ∀ pc, pc_th C pc = none))
    (hE : ∀ d j as S Q, 5 ≤ d → M j = none → ext j as S Q → pm_Met l D n0 sa ck G TW Y cost (d + 1) j as S Q) : ∀ d j as S Q, pm_call M cost ext d j as S Q → pm_Met l D n0 sa ck G TW Y cost d j as S Q := by
  intro d
  induction d with
  | zero => exact fun _ _ _ _ h => h.elim
  | succ d ih =>
    intro j as S Q h
    unfold pm_call at h
    cases hm : M j with
    | none => rw [hm] at h; exact hE d j as S Q h.1 hm h.2
    | some q =>
      obtain ⟨C, nL⟩ := q
      rw [hm] at h
      obtain ⟨e1, e2, e3, e4, e5⟩ := hM j C nL hm
      subst e1
      exact pm_sound_body hGm rfl e2 e3 e4 e5 (hH j C _ hm).1 (hH j C _ hm).2 ih h.1 h.2
