def ckM (own : String) (q : Nat × (Nat × Nat × Nat × Nat) × List Nat) : Bool :=
  if q.2.1.1 = 0 then okn q.2.1.2.1 q.2.1.2.2.1 && (decide (q.2.1.2.1 < 272) && (inT (q.2.2.getD 0 0) (.methodLink own q.1 (Y q.2.1.2.1).1) && inT (q.2.2.getD 1 0) (.static (Y q.2.1.2.1).1)))
  else if q.2.1.1 = 1 then okn q.2.1.2.1 q.2.1.2.2.1 && (decide (q.2.1.2.1 < 272) && (inT (q.2.2.getD 0 0) (.methodLink own q.1 (Y q.2.1.2.1).1) && (inT (q.2.2.getD 1 0) (.instanceMethod (Y q.2.1.2.1).1) && (inT (q.2.2.getD 2 0) (.selects (Y q.2.1.2.1).1.cls (Y q.2.1.2.1).1 (Y q.2.1.2.1).1) && (match vwCl[q.2.1.2.2.2]? with
    | some w => decide (w.1 = (Y q.2.1.2.1).1.cls)
    | none => false)))))
  else if q.2.1.1 = 2 then okn q.2.1.2.1 q.2.1.2.2.1 && (decide (q.2.1.2.1 < 272) && (decide ((Y q.2.1.2.1).1.name = "<init>") && (decide ((Y q.2.1.2.1).2.2.2 = none) && (inT (q.2.2.getD 0 0) (.instanceMethod (Y q.2.1.2.1).1) && decide (Cond.methodLinkNest own q.1 (Y q.2.1.2.1).1 "TownTable" ∈ NWn)))))
  else if q.2.1.1 = 3 then inT (q.2.2.getD 0 0) (.methodLink own q.1 Lib.objectInit) && (inT (q.2.2.getD 1 0) (.instanceMethod Lib.objectInit) && inT (q.2.2.getD 2 0) (.code Lib.objectInit ⟨#[0xb1]⟩ 1 none))
  else if q.2.1.1 = 4 then inT (q.2.2.getD 0 0) (.methodLink own q.1 arraycopyName) && (inT (q.2.2.getD 1 0) (.native arraycopyName) && (inT (q.2.2.getD 2 0) (.static arraycopyName) && inT (q.2.2.getD 3 0) (.initialized "java/lang/System")))
  else if q.2.1.1 = 7 then inT (q.2.2.getD 0 0) (.methodLink own q.1 Lib.Math.max.name) && (inT (q.2.2.getD 1 0) (.static Lib.Math.max.name) && (inT (q.2.2.getD 2 0) (.initialized "java/lang/Math") && inT (q.2.2.getD 3 0) (.code Lib.Math.max.name Lib.Math.max.code 2 (some .int))))
  else if q.2.1.1 = 8 then inT (q.2.2.getD 0 0) (.methodLink own q.1 Lib.Math.min.name) && (inT (q.2.2.getD 1 0) (.static Lib.Math.min.name) && (inT (q.2.2.getD 2 0) (.initialized "java/lang/Math") && inT (q.2.2.getD 3 0) (.code Lib.Math.min.name Lib.Math.min.code 2 (some .int))))
  else if q.2.1.1 = 6 then okn q.2.1.2.1 q.2.1.2.2.1 && (decide (q.2.1.2.1 < 272) && (inT (q.2.2.getD 0 0) (.methodLink own q.1 (Y q.2.1.2.1).1) && (inT (q.2.2.getD 1 0) (.instanceMethod (Y q.2.1.2.1).1) && (inT (q.2.2.getD 2 0) (.selects (Y q.2.1.2.1).1.cls (Y q.2.1.2.1).1 (Y q.2.1.2.1).1) && decide ((Y q.2.1.2.1).1.cls = "java/lang/String")))))
  else if q.2.1.1 = 5 then okn q.2.1.2.1 q.2.1.2.2.1 && (decide (q.2.1.2.1 < 272) && (decide ((Y q.2.1.2.1).1.name = "<init>") && (decide ((Y q.2.1.2.1).2.2.2 = none) && (inT (q.2.2.getD 0 0) (.methodLink own q.1 (Y q.2.1.2.1).1) && inT (q.2.2.getD 1 0) (.instanceMethod (Y q.2.1.2.1).1)))))
  else if q.2.1.1 = 9 then okn q.2.1.2.1 q.2.1.2.2.1 && (decide (272 ≤ q.2.1.2.1) && (inT (q.2.2.getD 0 0) (.methodLink own q.1 (Y q.2.1.2.1).1) && inT (q.2.2.getD 1 0) (.static (Y q.2.1.2.1).1)))
  else false
theorem GG_text {n0 : Nat} {sa sv : Nat → Nat} {s : State} (hG : GG n0 sa sv s) (b : Nat) (hb : b < 26) {H : Heap} {locs : List Loc} (hS : va_S (fun q => n0 ≤ q) s.heap H locs) : ∃ cell : Cell, H[sa b]? = some cell ∧ cell.vm.isStatics = false ∧ s.vm.findClass "java/lang/String" = some cell.cls := by
  obtain ⟨-, -, -, -, -, h5, -⟩ := hG
  exact vk_recv h5 hb hS
theorem ckM_ok {n0 : Nat} {sa sv : Nat → Nat} {s : State} (hG : GG n0 sa sv s) {own : String} {l : List (Nat × (Nat × Nat × Nat × Nat) × List Nat)} (h : l.all (ckM own) = true) {i : Nat} {q : Nat × Nat × Nat × Nat} (hl : (pm_lk1 l i).map Prod.fst = some q) : pm_okM own TW Y n0 sa s i q := by
  cases hq : pm_lk1 l i with
  | none => rw [hq] at hl; cases hl
  | some v =>
    obtain ⟨q', ps⟩ := v
    rw [hq] at hl
    have hqq : q' = q := Option.some.inj hl
    subst hqq
    have h3 := List.all_eq_true.mp h _ (pm_lk1_mem hq)
    unfold ckM at h3
    dsimp only at h3
    refine ⟨fun e => ?_, fun e => ?_, fun e => ?_, fun e => ?_, fun e => ?_, fun e => ?_, fun e => ?_, fun e => ?_, fun e => ?_, fun e => ?_⟩
    · simp only [e, if_true, Bool.and_eq_true, decide_eq_true_eq] at h3
      exact ⟨okn_ok h3.1, hh_no h3.2.1, inT_ok h3.2.2.1, inT_ok h3.2.2.2⟩
    · simp only [e, Bool.and_eq_true, reduceIte, Nat.one_ne_zero, decide_eq_true_eq] at h3
      obtain ⟨a1, a0, a2, a3, a4, a5⟩ := h3
      refine ⟨okn_ok a1, hh_no a0, inT_ok a2, inT_ok a3, inT_ok a4, ?_⟩
      cases hc : vwCl[q'.2.2.2]? with
      | none => rw [hc] at a5; cases a5
      | some w =>
        obtain ⟨C', T, N⟩ := w
        rw [hc] at a5
        simp only [decide_eq_true_eq] at a5
        exact ⟨T, N, by rw [← a5]⟩
    · simp [e] at h3
      obtain ⟨a1, a0, a2, a3, a4, a5⟩ := h3
      exact ⟨okn_ok a1, hh_no a0, a2, a3, inT_ok a4, "TownTable", hG.1 _ (List.mem_append_left _ a5)⟩
    · simp [e] at h3
      exact ⟨inT_ok h3.1, inT_ok h3.2.1, inT_ok h3.2.2⟩
    · simp [e] at h3
      exact ⟨inT_ok h3.1, inT_ok h3.2.1, inT_ok h3.2.2.1, inT_ok h3.2.2.2⟩
    · simp [e] at h3
      obtain ⟨a1, a0, a2, a3, a4, a5⟩ := h3
      exact ⟨okn_ok a1, hh_no a0, a2, a3, inT_ok a4, inT_ok a5⟩
    · simp [e] at h3
      obtain ⟨a1, a0, a2, a3, a4, a5⟩ := h3
      exact ⟨okn_ok a1, hh_no a0, inT_ok a2, inT_ok a3, inT_ok a4, fun b H locs hb hS => by rw [a5]; exact GG_text hG b hb hS⟩
    · simp [e] at h3
      exact ⟨inT_ok h3.1, inT_ok h3.2.1, inT_ok h3.2.2.1, inT_ok h3.2.2.2⟩
    · simp [e] at h3
      exact ⟨inT_ok h3.1, inT_ok h3.2.1, inT_ok h3.2.2.1, inT_ok h3.2.2.2⟩
    · simp [e] at h3
      obtain ⟨a1, a0, a2, a3⟩ := h3
      have hlt : q'.2.1 < 300 := by
        have := a1
        simp only [okn, Bool.and_eq_true, decide_eq_true_eq] at this
        exact this.2
      exact ⟨okn_ok a1, hh_has _ hlt a0, inT_ok a2, inT_ok a3⟩
def ckK (own : String) (q : Nat × Value × Nat) : Bool := match q.2.1 with
  | .int x => inT q.2.2 (.constant own q.1 x)
  | .long x => inT q.2.2 (.constantLong own q.1 x)
  | .retAddr k => txt.any (fun t => decide (t.1 = own) && (decide (t.2.1 = q.1) && decide (t.2.2.2 = k)))
  | _ => false
theorem ckK_ok {n0 : Nat} {sa sv : Nat → Nat} {s : State} (hG : GG n0 sa sv s) {own : String} {l : List (Nat × Value × Nat)} (h : l.all (ckK own) = true) {i : Nat} {v : Value} (hl : (pm_lk1 l i).map Prod.fst = some v) {c : Cond} : pm_okK own (c :: TW) sa s i v := by
  cases hq : pm_lk1 l i with
  | none => rw [hq] at hl; cases hl
  | some w =>
    obtain ⟨v', ps⟩ := w
    rw [hq] at hl
    have hqq : v' = v := Option.some.inj hl
    subst hqq
    have h3 := List.all_eq_true.mp h _ (pm_lk1_mem hq)
    unfold ckK at h3
    unfold pm_okK
    cases v' with
    | int x => exact List.mem_cons_of_mem _ (inT_ok h3)
    | long x => exact List.mem_cons_of_mem _ (inT_ok h3)
    | retAddr k =>
      obtain ⟨t, ht, h4⟩ := List.any_eq_true.mp h3
      simp only [Bool.and_eq_true, decide_eq_true_eq] at h4
      obtain ⟨e1, e2, e3⟩ := h4
      have := hG.2.2.2.1 t ht
      rw [e1, e2, e3] at this
      exact ⟨_, this⟩
    | _ => cases h3
def ckN (own : String) (q : Nat × (Nat × List Value) × (Nat × Nat × Nat)) : Bool := match vwCl[q.2.1.1]? with
  | some (C', T, N) => inT q.2.2.1 (.classLink own q.1 C') && (inT q.2.2.2.1 (.instantiable C' N) && (inT q.2.2.2.2 (.initialized C') && (decide (q.2.1.2.length = N) && ((List.range N).all (fun j => match parseFieldDescriptor (T j).2.2.1 with
    | some t => decide (defaultValue t = vp_V q.2.1.2 j)
    | none => false) && q.2.1.2.all (fun v => match v with
      | .int _ => true
      | .long _ => true
      | .null => true
      | _ => false)))))
  | none => false
theorem ckN_ok {own : String} {l : List (Nat × (Nat × List Value) × (Nat × Nat × Nat))} (h : l.all (ckN own) = true) {i ci : Nat} {fs : List Value} (hl : (pm_lk1 l i).map Prod.fst = some (ci, fs)) {c : Cond} : pm_okN own (c :: TW) i ci fs := by
  cases hq : pm_lk1 l i with
  | none => rw [hq] at hl; cases hl
  | some w =>
    obtain ⟨v', ps⟩ := w
    rw [hq] at hl
    have hqq : v' = (ci, fs) := Option.some.inj hl
    subst hqq
    have h3 := List.all_eq_true.mp h _ (pm_lk1_mem hq)
    unfold ckN at h3
    dsimp only at h3
    cases hc : vwCl[ci]? with
    | none => rw [hc] at h3; cases h3
    | some w =>
      obtain ⟨C', T, N⟩ := w
      rw [hc] at h3
      simp only [Bool.and_eq_true, decide_eq_true_eq] at h3
      obtain ⟨a1, a2, a3, a4, a5, a6⟩ := h3
      refine ⟨C', T, N, hc, List.mem_cons_of_mem _ (inT_ok a1), List.mem_cons_of_mem _ (inT_ok a2), List.mem_cons_of_mem _ (inT_ok a3), a4, fun j hj t ht => ?_, fun n0 sa => ?_⟩
      · have := List.all_eq_true.mp a5 j (List.mem_range.mpr hj)
        rw [ht] at this
        simpa using this
      · have : fs.map (pm_v n0 sa) = fs.map id := by
          apply List.map_congr_left
          intro v hv
          have h9 := List.all_eq_true.mp a6 v hv
          cases v <;> first | rfl | (simp at h9)
        rw [this, List.map_id]
def ckX (cc : ByteArray) (own : String) (q : Nat × String × Nat) : Bool := decide (own = RX11) && x_tab.any (fun x => decide (x.1 = q.2.1) && (decide (decode cc q.1 = .ok (.new x.2.1, 3)) && (decide (decode cc (q.1 + 3) = .ok (.dup, 1)) && (txt.any (fun t => decide (t.1 = own) && decide (t.2.1 = q.2.2)) && ((decide (decode cc (q.1 + 4) = .ok (.ldc q.2.2, 2)) && (decide (decode cc (q.1 + 6) = .ok (.invokespecial x.2.2.1, 3)) && decide (decode cc (q.1 + 9) = .ok (.athrow, 1)))) || (decide (decode cc (q.1 + 4) = .ok (.ldc_w q.2.2, 3)) && (decide (decode cc (q.1 + 7) = .ok (.invokespecial x.2.2.1, 3)) && decide (decode cc (q.1 + 10) = .ok (.athrow, 1)))))))))
theorem x_dec : x_tab.all (fun x => decide (decode x.2.2.2.2 0 = .ok (.aload_n 0, 1)) && (decide (decode x.2.2.2.2 1 = .ok (.aload_n 1, 1)) && (decide (decode x.2.2.2.2 2 = .ok (.invokespecial x.2.2.2.1, 3)) && (decide (decode x.2.2.2.2 5 = .ok (.return_, 1)) && Bundle.fit x.1)))) = true := by decide +kernel
theorem x_fit : ∀ n ∈ x_names, Bundle.fit n = true := by decide +kernel
theorem ckX_ok {l : Launch} (hl : l.stackTraces = false) {n0 : Nat} {sa sv : Nat → Nat} {s : State} (hG : GG n0 sa sv s) {cc : ByteArray} {own : String} {th : List (Nat × String × Nat)} (h : th.all (ckX cc own) = true) {pc : Nat} {E : String} (ht : (pm_lk1 th pc).map Prod.fst = some E) (args : Array Value) : pm_okX l cc own n0 s args pc E := by
  cases hq : pm_lk1 th pc with
  | none => rw [hq] at ht; cases ht
  | some w =>
    obtain ⟨E', is⟩ := w
    rw [hq] at ht
    have hqq : E' = E := Option.some.inj ht
    subst hqq
    have h3 := List.all_eq_true.mp h _ (pm_lk1_mem hq)
    unfold ckX at h3
    simp only [Bool.and_eq_true, decide_eq_true_eq] at h3
    obtain ⟨e0, h3⟩ := h3
    subst e0
    obtain ⟨x, hx, h4⟩ := List.any_eq_true.mp h3
    simp only [Bool.and_eq_true, decide_eq_true_eq, Bool.or_eq_true] at h4
    obtain ⟨e1, b0, b3, b4, b5⟩ := h4
    subst e1
    obtain ⟨t, htx, h5⟩ := List.any_eq_true.mp b4
    simp only [Bool.and_eq_true, decide_eq_true_eq] at h5
    have hv := hG.2.2.2.1 t htx
    rw [h5.1, h5.2] at hv
    have hd := List.all_eq_true.mp x_dec x hx
    simp only [Bool.and_eq_true, decide_eq_true_eq] at hd
    obtain ⟨r0, r1, r2, r5, hf⟩ := hd
    have hw : ∀ w ∈ x_ws x, w ∈ GW := fun w h => List.mem_append_right _ (List.mem_append_left _ (List.mem_flatMap.mpr ⟨x, hx, h⟩))
    refine ⟨t.2.2.1, x_names, x.2.1, is, x.2.2.1, sa t.2.2.2, x.2.2.2.1, x.2.2.2.2, hl, ⟨r0, r1, r2, r5⟩, hf, x_fit, by decide, GW_use hG (hw _ List.mem_cons_self) args, GW_use hG (hw _ (List.mem_cons_of_mem _ List.mem_cons_self)) args, hv, fun w h => GW_use hG (hw _ (List.mem_cons_of_mem _ (List.mem_cons_of_mem _ h))) args, fun w h => ?_, hG.2.1, hG.2.2.1, b0, b3, b5⟩
    have := List.all_eq_true.mp GW_ot w (hw w h)
    simp only [Bool.and_eq_true] at this
    unfold vx_ot
    rw [this.1, Bool.true_or]
