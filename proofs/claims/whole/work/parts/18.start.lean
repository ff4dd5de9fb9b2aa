def R_law : String := "TownTableLaw"
def lw_P (b : Addr) (xs : List Int32) (args : Array Value) (s : State) : Prop := args = #[.ref b] ∧ s.IntsAt b xs ∧ xs.length ≤ 3072 ∧ (Jvm.Cond.and given_1 narrow_1).before args s = true
def lw_Q (_ : Array Value) (s : State) (o : Outcome) (t : State) : Prop := o = .returned (some (.int 1)) ∧ Framed s o t [] 1141 31924
def lw_Z (below : List Frame) (a : Array Value) (s : State) : State → Prop := fun t => ∃ o, t.status = .running ∧ Ended t below o ∧ lw_Q a s o t
/-- the law's own end, with 1 on the stack, nothing written that was there before, its room as the claim has it -/
theorem lw_ret {p : Program} {l : Launch} {e : Env} {s : State} {m : MethodId} {below : List Frame} {meth : Method} {c : Code} {b : Nat} (hx : p.tables.exec = Jvm.exec) (hb : c.code = code) (hr : meth.sig.returnType = ret) (hlocks : meth.locks = false) {pc : Nat} {H : Heap} {ls : Array Slot} (hdg : decode code pc = .ok (.ireturn, 1)) : W p l e room_1 s m #[Value.ref b] below meth c H [] 1141 31924 (lw_Z below #[Value.ref b] s) (F0 m pc ls [.int 1]) := by
  intro T hT X
  obtain ⟨fs, hret, hrun, hended, hW, hframe⟩ := X.leave (v := some (.int 1)) (hlocks := hlocks) (fun h => by rw [hr] at h; cases h)
  have hmeth' : T.vm.method? m = some meth := X.method'
  refine ⟨T.setFrames fs, ?_, .returned (some (.int 1)), hrun, hended, rfl, ⟨_, rfl⟩, hW, hframe⟩
  jvm_step X.here [X.here.top, hx, hb, hdg, hmeth', hr, ret, narrow_b1]
  (try refine ⟨rfl, ?_⟩); (try refine ⟨rfl, ?_⟩)
  first | (intro acts; rw [hret _ acts rfl rfl rfl]) | rw [hret _ _ rfl rfl rfl]
  exact Steps.refl _
/-- what holds at the law's entry: the machine, the code, the tables' words (any of lw_tbl by 'hts w (by decide +kernel)'), the script of L ints xs at the cell b, what the Statement gives of the start (any of its parts by flat_of_before) -/
def lw_At (p : Program) (s : State) (m : MethodId) (meth : Method) (c : Code) (b L : Nat) (xs : Nat → Int32) : Prop :=
  p.tables.exec = Jvm.exec ∧ c.code = code ∧ meth.sig.returnType = ret ∧ c.maxLocals = 7 ∧ s.vm.findClass R_law = some m.cls ∧ (∀ w ∈ lw_tbl, w.before #[Value.ref b] s = true) ∧ va_X b L xs s s.heap ∧ b < s.heap.size ∧ meth.locks = false ∧ (Jvm.Cond.and given_1 narrow_1).before #[Value.ref b] s = true
/-- from the entry: what the pure machine says of the law's body the machine does -/
theorem start_W {p : Program} {e : Env} {s : State} {m : MethodId} {below : List Frame} {meth : Method} {c : Code} (l : Launch) (hl : l.stackTraces = false) {b L : Nat} {xs : Nat → Int32} (hL : L ≤ 3072) (C0 : lw_At p s m meth c b L xs) {ext : pCall} (hE : ∀ (D : va_G) (n0 : Nat) (sa sv : Nat → Nat) (ck : Nat → ClassId) (d j : Nat) (as : List Value) (S : pS) (Q : pQ), 5 ≤ d → M j = none → ext j as S Q → pm_Met l D n0 sa ck (GG n0 sa sv) TW Y cost (d + 1) j as S Q)
    (h : pm_ev (C_L_law L xs) 16 (pm_call M cost ext 15) cost (true, true) 0 1141 31924 (fun o _ => o = .inl (some (.int 1))) 0 (pm_ent 7 [.retAddr 1000]) [] 0 0 (0, fun _ => .inr (0, []))) : W p l e room_1 s m #[Value.ref b] below meth c s.heap [] 0 0 (lw_Z below #[Value.ref b] s) (entryFrame m ([Value.ref b] : List Value).toArray 7) := by
  obtain ⟨hx, hb, hr, hml, hown, hts, hX, hbl, hlocks, hgv⟩ := C0
  obtain ⟨sa, sv, hG, hsb⟩ := GG_start hts hgv
  obtain ⟨D, ck, hK⟩ := K_start hts
  have hTs := Ts_start hts
  have hth : ∀ pc, pc_th (C_L_law L xs) pc = none := fun _ => rfl
  have B : pm_B p s m #[Value.ref b] meth c D ck s.heap.size (C_L_law L xs) code 7 RL (w_0 :: TW) (GG s.heap.size sa sv) := ⟨hx, hb, hml, hown, hTs, hr, hlocks, ⟨fun _ _ => trivial, fun pc E h => by rw [hth] at h; cases h⟩, (fun h => by cases h), hK, Nat.le_refl _, hG⟩
  have hT : pm_T l s #[Value.ref b] s.heap.size sa (C_L_law L xs) code RL (w_0 :: TW) TW Y := pm_T_of hl cl_all ar_all ik_L_law ck_L_law s _ hG (fun L' xs' q => by cases q; exact ⟨by rw [hsb]; exact hX, by rw [hsb]; exact hbl, by rw [hsb]; exact Nat.not_le.mpr hbl, by omega⟩)
  have key := h (fun pc ls st uc us S => uc ≤ 1141 ∧ us ≤ 31924 → pm_X p l e (pm_R 16 1141 31924) s m #[Value.ref b] below meth c D s.heap.size sa ck 7 1141 31924 true (fun o _ => o = .inl (some (.int 1))) pc ls st uc us S) (fun pc ls st uc us S' q => pm_sound_step (d := 15) (ak := (true, true)) B hT (GG_m _ sa sv) (sound hl (hE D s.heap.size sa sv ck) 15) (fun _ => Nat.le_refl _) pc ls st uc us S' q) ⟨Nat.zero_le _, Nat.zero_le _⟩
  rw [lg_entry_eq]
  intro T hT0 X
  have hlr := pm_ent_lr (n0 := s.heap.size) (sa := sa) (nL := 7) (as := [.retAddr 1000]) (by decide)
  have e0 : [Value.retAddr 1000].map (pm_v s.heap.size sa) = [Value.ref b] := by
    show [Value.ref (sa 1000)] = _
    rw [hsb]
  rw [e0] at hlr
  obtain ⟨t, a1, o, b1, b2, b3⟩ := key _ s.heap [] hlr (fun k q h => by simp [pm_w] at h) va_S.rf T hT0 X
  refine ⟨t, a1, o, b1, b2, ?_⟩
  rcases b3 with ⟨⟨-, ⟨v, S, ho, hQ, -⟩, -⟩, L', hF, hfree⟩ | ⟨q, -, E, ce, L', ⟨⟨S, hQ, -⟩, -⟩, -⟩
  · have hv : v = some (.int 1) := by injection hQ
    subst hv
    exact ⟨ho, hF.1, hF.2.1, hF.2.2.sift (fun x hx => Or.inr (hfree x hx))⟩
  · cases hQ
