/-- a method with code: its body -/
theorem pm_in {cost : Nat → Nat × Nat × Bool × Bool} {M : Nat → Option (pC × Nat)} {ext : pCall} {d j : Nat} {as : List Value} {S : pS} {Q : pQ} {C : pC} {nL : Nat} (hM : M j = some (C, nL)) (h1 : (as.flatMap pm_sl).length ≤ nL) (h : pm_ev C (d + 1) (pm_call M cost ext d) cost (cost j).2.2 S.1 (cost j).1 (cost j).2.1 Q 0 (pm_ent nL as) [] 0 0 S) : pm_call M cost ext (d + 1) j as S Q := by
  unfold pm_call
  rw [hM]
  exact ⟨h1, h⟩
section GO
variable {C : pC} {d : Nat} {call : pCall} {cost : Nat → Nat × Nat × Bool × Bool} {ak : Bool × Bool} {nxe mc ms : Nat} {Q : pQ} {pc tg pc' : Nat} {ls : pL} {st r : List Value} {uc us : Nat} {S : pS}
theorem g_iconst {n : Int} {v : Int32} (hc : ∀ j as S (Q Q' : pQ), (∀ o S, Q o S → Q' o S) → call j as S Q → call j as S Q') (hpc : pc_in C pc = some (.iconst n, tg)) (hv : Int32.ofInt n = v) (hp : pc + 1 = pc') (k : pm_ev C d call cost ak nxe mc ms Q pc' ls (.int v :: st) uc us S) : pm_ev C d call cost ak nxe mc ms Q pc ls (st) uc us S := by
  refine pm_go hc ?_
  unfold pm_step
  rw [hpc]
  subst hp; subst hv; exact k
theorem g_bipush {n : Int} {v : Int32} (hc : ∀ j as S (Q Q' : pQ), (∀ o S, Q o S → Q' o S) → call j as S Q → call j as S Q') (hpc : pc_in C pc = some (.bipush n, tg)) (hv : (Int8.ofInt n).toInt32 = v) (hp : pc + 2 = pc') (k : pm_ev C d call cost ak nxe mc ms Q pc' ls (.int v :: st) uc us S) : pm_ev C d call cost ak nxe mc ms Q pc ls (st) uc us S := by
  refine pm_go hc ?_
  unfold pm_step
  rw [hpc]
  subst hp; subst hv; exact k
theorem g_sipush {n : Int} {v : Int32} (hc : ∀ j as S (Q Q' : pQ), (∀ o S, Q o S → Q' o S) → call j as S Q → call j as S Q') (hpc : pc_in C pc = some (.sipush n, tg)) (hv : (Int16.ofInt n).toInt32 = v) (hp : pc + 3 = pc') (k : pm_ev C d call cost ak nxe mc ms Q pc' ls (.int v :: st) uc us S) : pm_ev C d call cost ak nxe mc ms Q pc ls (st) uc us S := by
  refine pm_go hc ?_
  unfold pm_step
  rw [hpc]
  subst hp; subst hv; exact k
theorem g_lconst {n : Fin 2} {v : Int64} (hc : ∀ j as S (Q Q' : pQ), (∀ o S, Q o S → Q' o S) → call j as S Q → call j as S Q') (hpc : pc_in C pc = some (.lconst n, tg)) (hv : Int64.ofNat (n : Nat) = v) (hp : pc + 1 = pc') (k : pm_ev C d call cost ak nxe mc ms Q pc' ls (.long v :: st) uc us S) : pm_ev C d call cost ak nxe mc ms Q pc ls (st) uc us S := by
  refine pm_go hc ?_
  unfold pm_step
  rw [hpc]
  subst hp; subst hv; exact k
theorem g_ldc_i {i : Nat} {v : Int32} (hc : ∀ j as S (Q Q' : pQ), (∀ o S, Q o S → Q' o S) → call j as S Q → call j as S Q') (hpc : pc_in C pc = some (.ldc i, tg)) (hv : pc_kc C i = some (.int v)) (hp : pc + 2 = pc') (k : pm_ev C d call cost ak nxe mc ms Q pc' ls (.int v :: st) uc us S) : pm_ev C d call cost ak nxe mc ms Q pc ls (st) uc us S := by
  refine pm_go hc ?_
  unfold pm_step
  rw [hpc]
  subst hp; dsimp only; rw [hv]; exact k
theorem g_ldc_w_i {i : Nat} {v : Int32} (hc : ∀ j as S (Q Q' : pQ), (∀ o S, Q o S → Q' o S) → call j as S Q → call j as S Q') (hpc : pc_in C pc = some (.ldc_w i, tg)) (hv : pc_kc C i = some (.int v)) (hp : pc + 3 = pc') (k : pm_ev C d call cost ak nxe mc ms Q pc' ls (.int v :: st) uc us S) : pm_ev C d call cost ak nxe mc ms Q pc ls (st) uc us S := by
  refine pm_go hc ?_
  unfold pm_step
  rw [hpc]
  subst hp; dsimp only; rw [hv]; exact k
theorem g_ldc_t {i : Nat} {v : Nat} (hc : ∀ j as S (Q Q' : pQ), (∀ o S, Q o S → Q' o S) → call j as S Q → call j as S Q') (hpc : pc_in C pc = some (.ldc i, tg)) (hv : pc_kc C i = some (.retAddr v)) (hp : pc + 2 = pc') (k : pm_ev C d call cost ak nxe mc ms Q pc' ls (.retAddr v :: st) uc us S) : pm_ev C d call cost ak nxe mc ms Q pc ls (st) uc us S := by
  refine pm_go hc ?_
  unfold pm_step
  rw [hpc]
  subst hp; dsimp only; rw [hv]; exact k
theorem g_ldc2_w {i : Nat} {v : Int64} (hc : ∀ j as S (Q Q' : pQ), (∀ o S, Q o S → Q' o S) → call j as S Q → call j as S Q') (hpc : pc_in C pc = some (.ldc2_w i, tg)) (hv : pc_kc C i = some (.long v)) (hp : pc + 3 = pc') (k : pm_ev C d call cost ak nxe mc ms Q pc' ls (.long v :: st) uc us S) : pm_ev C d call cost ak nxe mc ms Q pc ls (st) uc us S := by
  refine pm_go hc ?_
  unfold pm_step
  rw [hpc]
  subst hp; dsimp only; rw [hv]; exact k
theorem g_iload {i : Nat} {v : Int32} (hc : ∀ j as S (Q Q' : pQ), (∀ o S, Q o S → Q' o S) → call j as S Q → call j as S Q') (hpc : pc_in C pc = some (.iload i, tg)) (hv : pm_get ls i = some (.int v)) (hp : pc + 2 = pc') (k : pm_ev C d call cost ak nxe mc ms Q pc' ls (.int v :: st) uc us S) : pm_ev C d call cost ak nxe mc ms Q pc ls (st) uc us S := by
  refine pm_go hc ?_
  unfold pm_step
  rw [hpc]
  subst hp; show pm_gi ls i _; unfold pm_gi; rw [hv]; exact k
theorem g_iload_n {i : Fin 4} {v : Int32} (hc : ∀ j as S (Q Q' : pQ), (∀ o S, Q o S → Q' o S) → call j as S Q → call j as S Q') (hpc : pc_in C pc = some (.iload_n i, tg)) (hv : pm_get ls i = some (.int v)) (hp : pc + 1 = pc') (k : pm_ev C d call cost ak nxe mc ms Q pc' ls (.int v :: st) uc us S) : pm_ev C d call cost ak nxe mc ms Q pc ls (st) uc us S := by
  refine pm_go hc ?_
  unfold pm_step
  rw [hpc]
  subst hp; show pm_gi ls i _; unfold pm_gi; rw [hv]; exact k
theorem g_lload {i : Nat} {v : Int64} (hc : ∀ j as S (Q Q' : pQ), (∀ o S, Q o S → Q' o S) → call j as S Q → call j as S Q') (hpc : pc_in C pc = some (.lload i, tg)) (hv : pm_get ls i = some (.long v)) (hp : pc + 2 = pc') (k : pm_ev C d call cost ak nxe mc ms Q pc' ls (.long v :: st) uc us S) : pm_ev C d call cost ak nxe mc ms Q pc ls (st) uc us S := by
  refine pm_go hc ?_
  unfold pm_step
  rw [hpc]
  subst hp; show pm_gl ls i _; unfold pm_gl; rw [hv]; exact k
theorem g_lload_n {i : Fin 4} {v : Int64} (hc : ∀ j as S (Q Q' : pQ), (∀ o S, Q o S → Q' o S) → call j as S Q → call j as S Q') (hpc : pc_in C pc = some (.lload_n i, tg)) (hv : pm_get ls i = some (.long v)) (hp : pc + 1 = pc') (k : pm_ev C d call cost ak nxe mc ms Q pc' ls (.long v :: st) uc us S) : pm_ev C d call cost ak nxe mc ms Q pc ls (st) uc us S := by
  refine pm_go hc ?_
  unfold pm_step
  rw [hpc]
  subst hp; show pm_gl ls i _; unfold pm_gl; rw [hv]; exact k
theorem g_aload {i : Nat} {v : Value} (hc : ∀ j as S (Q Q' : pQ), (∀ o S, Q o S → Q' o S) → call j as S Q → call j as S Q') (hpc : pc_in C pc = some (.aload i, tg)) (hv : pm_get ls i = some v) (hr : pm_isr v = true) (hp : pc + 2 = pc') (k : pm_ev C d call cost ak nxe mc ms Q pc' ls (v :: st) uc us S) : pm_ev C d call cost ak nxe mc ms Q pc ls (st) uc us S := by
  refine pm_go hc ?_
  unfold pm_step
  rw [hpc]
  subst hp; show pm_ga ls i _; unfold pm_ga; rw [hv]; exact ⟨hr, k⟩
theorem g_aload_n {i : Fin 4} {v : Value} (hc : ∀ j as S (Q Q' : pQ), (∀ o S, Q o S → Q' o S) → call j as S Q → call j as S Q') (hpc : pc_in C pc = some (.aload_n i, tg)) (hv : pm_get ls i = some v) (hr : pm_isr v = true) (hp : pc + 1 = pc') (k : pm_ev C d call cost ak nxe mc ms Q pc' ls (v :: st) uc us S) : pm_ev C d call cost ak nxe mc ms Q pc ls (st) uc us S := by
  refine pm_go hc ?_
  unfold pm_step
  rw [hpc]
  subst hp; show pm_ga ls i _; unfold pm_ga; rw [hv]; exact ⟨hr, k⟩
theorem g_istore {i : Nat} {v : Int32} {ls1 : pL} (hc : ∀ j as S (Q Q' : pQ), (∀ o S, Q o S → Q' o S) → call j as S Q → call j as S Q') (hpc : pc_in C pc = some (.istore i, tg)) (hl : i < ls.length) (hs : pm_set ls i (.int v) = ls1) (hp : pc + 2 = pc') (k : pm_ev C d call cost ak nxe mc ms Q pc' ls1 (st) uc us S) : pm_ev C d call cost ak nxe mc ms Q pc ls (.int v :: st) uc us S := by
  refine pm_go hc ?_
  unfold pm_step
  rw [hpc]
  subst hp; subst hs; exact ⟨hl, k⟩
theorem g_istore_n {i : Fin 4} {v : Int32} {ls1 : pL} (hc : ∀ j as S (Q Q' : pQ), (∀ o S, Q o S → Q' o S) → call j as S Q → call j as S Q') (hpc : pc_in C pc = some (.istore_n i, tg)) (hl : (i : Nat) < ls.length) (hs : pm_set ls i (.int v) = ls1) (hp : pc + 1 = pc') (k : pm_ev C d call cost ak nxe mc ms Q pc' ls1 (st) uc us S) : pm_ev C d call cost ak nxe mc ms Q pc ls (.int v :: st) uc us S := by
  refine pm_go hc ?_
  unfold pm_step
  rw [hpc]
  subst hp; subst hs; exact ⟨hl, k⟩
theorem g_lstore {i : Nat} {v : Int64} {ls1 : pL} (hc : ∀ j as S (Q Q' : pQ), (∀ o S, Q o S → Q' o S) → call j as S Q → call j as S Q') (hpc : pc_in C pc = some (.lstore i, tg)) (hl : i + 1 < ls.length) (hs : pm_set ls i (.long v) = ls1) (hp : pc + 2 = pc') (k : pm_ev C d call cost ak nxe mc ms Q pc' ls1 (st) uc us S) : pm_ev C d call cost ak nxe mc ms Q pc ls (.long v :: st) uc us S := by
  refine pm_go hc ?_
  unfold pm_step
  rw [hpc]
  subst hp; subst hs; exact ⟨hl, k⟩
theorem g_lstore_n {i : Fin 4} {v : Int64} {ls1 : pL} (hc : ∀ j as S (Q Q' : pQ), (∀ o S, Q o S → Q' o S) → call j as S Q → call j as S Q') (hpc : pc_in C pc = some (.lstore_n i, tg)) (hl : (i : Nat) + 1 < ls.length) (hs : pm_set ls i (.long v) = ls1) (hp : pc + 1 = pc') (k : pm_ev C d call cost ak nxe mc ms Q pc' ls1 (st) uc us S) : pm_ev C d call cost ak nxe mc ms Q pc ls (.long v :: st) uc us S := by
  refine pm_go hc ?_
  unfold pm_step
  rw [hpc]
  subst hp; subst hs; exact ⟨hl, k⟩
theorem g_astore {i : Nat} {v : Value} {ls1 : pL} (hc : ∀ j as S (Q Q' : pQ), (∀ o S, Q o S → Q' o S) → call j as S Q → call j as S Q') (hpc : pc_in C pc = some (.astore i, tg)) (hr : pm_isr v = true) (hl : i < ls.length) (hs : pm_set ls i v = ls1) (hp : pc + 2 = pc') (k : pm_ev C d call cost ak nxe mc ms Q pc' ls1 (st) uc us S) : pm_ev C d call cost ak nxe mc ms Q pc ls (v :: st) uc us S := by
  refine pm_go hc ?_
  unfold pm_step
  rw [hpc]
  subst hp; subst hs; exact ⟨hr, hl, k⟩
theorem g_astore_n {i : Fin 4} {v : Value} {ls1 : pL} (hc : ∀ j as S (Q Q' : pQ), (∀ o S, Q o S → Q' o S) → call j as S Q → call j as S Q') (hpc : pc_in C pc = some (.astore_n i, tg)) (hr : pm_isr v = true) (hl : (i : Nat) < ls.length) (hs : pm_set ls i v = ls1) (hp : pc + 1 = pc') (k : pm_ev C d call cost ak nxe mc ms Q pc' ls1 (st) uc us S) : pm_ev C d call cost ak nxe mc ms Q pc ls (v :: st) uc us S := by
  refine pm_go hc ?_
  unfold pm_step
  rw [hpc]
  subst hp; subst hs; exact ⟨hr, hl, k⟩
theorem g_iinc {i : Nat} {n : Int} {v w : Int32} {ls1 : pL} (hc : ∀ j as S (Q Q' : pQ), (∀ o S, Q o S → Q' o S) → call j as S Q → call j as S Q') (hpc : pc_in C pc = some (.iinc i n, tg)) (hv : pm_get ls i = some (.int v)) (hn : Int32.ofInt n = w) (hl : i < ls.length) (hs : pm_set ls i (.int (v + w)) = ls1) (hp : pc + 3 = pc') (k : pm_ev C d call cost ak nxe mc ms Q pc' ls1 (st) uc us S) : pm_ev C d call cost ak nxe mc ms Q pc ls (st) uc us S := by
  refine pm_go hc ?_
  unfold pm_step
  rw [hpc]
  subst hp; subst hn; subst hs; show pm_gi ls i _; unfold pm_gi; rw [hv]; exact ⟨hl, k⟩
theorem g_iadd {x y : Int32}  (hc : ∀ j as S (Q Q' : pQ), (∀ o S, Q o S → Q' o S) → call j as S Q → call j as S Q') (hpc : pc_in C pc = some (.iadd, tg)) (hp : pc + 1 = pc') (k : pm_ev C d call cost ak nxe mc ms Q pc' ls (.int (x + y) :: st) uc us S) : pm_ev C d call cost ak nxe mc ms Q pc ls (.int y :: .int x :: st) uc us S := by
  refine pm_go hc ?_
  unfold pm_step
  rw [hpc]
  subst hp; exact k
theorem g_isub {x y : Int32}  (hc : ∀ j as S (Q Q' : pQ), (∀ o S, Q o S → Q' o S) → call j as S Q → call j as S Q') (hpc : pc_in C pc = some (.isub, tg)) (hp : pc + 1 = pc') (k : pm_ev C d call cost ak nxe mc ms Q pc' ls (.int (x - y) :: st) uc us S) : pm_ev C d call cost ak nxe mc ms Q pc ls (.int y :: .int x :: st) uc us S := by
  refine pm_go hc ?_
  unfold pm_step
  rw [hpc]
  subst hp; exact k
theorem g_imul {x y : Int32}  (hc : ∀ j as S (Q Q' : pQ), (∀ o S, Q o S → Q' o S) → call j as S Q → call j as S Q') (hpc : pc_in C pc = some (.imul, tg)) (hp : pc + 1 = pc') (k : pm_ev C d call cost ak nxe mc ms Q pc' ls (.int (x * y) :: st) uc us S) : pm_ev C d call cost ak nxe mc ms Q pc ls (.int y :: .int x :: st) uc us S := by
  refine pm_go hc ?_
  unfold pm_step
  rw [hpc]
  subst hp; exact k
theorem g_iand {x y : Int32}  (hc : ∀ j as S (Q Q' : pQ), (∀ o S, Q o S → Q' o S) → call j as S Q → call j as S Q') (hpc : pc_in C pc = some (.iand, tg)) (hp : pc + 1 = pc') (k : pm_ev C d call cost ak nxe mc ms Q pc' ls (.int (x &&& y) :: st) uc us S) : pm_ev C d call cost ak nxe mc ms Q pc ls (.int y :: .int x :: st) uc us S := by
  refine pm_go hc ?_
  unfold pm_step
  rw [hpc]
  subst hp; exact k
theorem g_ior {x y : Int32}  (hc : ∀ j as S (Q Q' : pQ), (∀ o S, Q o S → Q' o S) → call j as S Q → call j as S Q') (hpc : pc_in C pc = some (.ior, tg)) (hp : pc + 1 = pc') (k : pm_ev C d call cost ak nxe mc ms Q pc' ls (.int (x ||| y) :: st) uc us S) : pm_ev C d call cost ak nxe mc ms Q pc ls (.int y :: .int x :: st) uc us S := by
  refine pm_go hc ?_
  unfold pm_step
  rw [hpc]
  subst hp; exact k
theorem g_ixor {x y : Int32}  (hc : ∀ j as S (Q Q' : pQ), (∀ o S, Q o S → Q' o S) → call j as S Q → call j as S Q') (hpc : pc_in C pc = some (.ixor, tg)) (hp : pc + 1 = pc') (k : pm_ev C d call cost ak nxe mc ms Q pc' ls (.int (x ^^^ y) :: st) uc us S) : pm_ev C d call cost ak nxe mc ms Q pc ls (.int y :: .int x :: st) uc us S := by
  refine pm_go hc ?_
  unfold pm_step
  rw [hpc]
  subst hp; exact k
theorem g_ishl {x y : Int32}  (hc : ∀ j as S (Q Q' : pQ), (∀ o S, Q o S → Q' o S) → call j as S Q → call j as S Q') (hpc : pc_in C pc = some (.ishl, tg)) (hp : pc + 1 = pc') (k : pm_ev C d call cost ak nxe mc ms Q pc' ls (.int (x <<< (y &&& 31)) :: st) uc us S) : pm_ev C d call cost ak nxe mc ms Q pc ls (.int y :: .int x :: st) uc us S := by
  refine pm_go hc ?_
  unfold pm_step
  rw [hpc]
  subst hp; exact k
theorem g_ishr {x y : Int32}  (hc : ∀ j as S (Q Q' : pQ), (∀ o S, Q o S → Q' o S) → call j as S Q → call j as S Q') (hpc : pc_in C pc = some (.ishr, tg)) (hp : pc + 1 = pc') (k : pm_ev C d call cost ak nxe mc ms Q pc' ls (.int (x >>> (y &&& 31)) :: st) uc us S) : pm_ev C d call cost ak nxe mc ms Q pc ls (.int y :: .int x :: st) uc us S := by
  refine pm_go hc ?_
  unfold pm_step
  rw [hpc]
  subst hp; exact k
theorem g_iushr {x y : Int32}  (hc : ∀ j as S (Q Q' : pQ), (∀ o S, Q o S → Q' o S) → call j as S Q → call j as S Q') (hpc : pc_in C pc = some (.iushr, tg)) (hp : pc + 1 = pc') (k : pm_ev C d call cost ak nxe mc ms Q pc' ls (.int ((x.toUInt32 >>> (y.toUInt32 &&& Int32.toUInt32 31)).toInt32) :: st) uc us S) : pm_ev C d call cost ak nxe mc ms Q pc ls (.int y :: .int x :: st) uc us S := by
  refine pm_go hc ?_
  unfold pm_step
  rw [hpc]
  subst hp; exact k
theorem g_idiv {x y : Int32} (hc : ∀ j as S (Q Q' : pQ), (∀ o S, Q o S → Q' o S) → call j as S Q → call j as S Q') (hpc : pc_in C pc = some (.idiv, tg)) (h0 : ¬ y = 0) (hp : pc + 1 = pc') (k : pm_ev C d call cost ak nxe mc ms Q pc' ls (.int (x / y) :: st) uc us S) : pm_ev C d call cost ak nxe mc ms Q pc ls (.int y :: .int x :: st) uc us S := by
  refine pm_go hc ?_
  unfold pm_step
  rw [hpc]
  subst hp; exact ⟨h0, k⟩
theorem g_irem {x y : Int32} (hc : ∀ j as S (Q Q' : pQ), (∀ o S, Q o S → Q' o S) → call j as S Q → call j as S Q') (hpc : pc_in C pc = some (.irem, tg)) (h0 : ¬ y = 0) (hp : pc + 1 = pc') (k : pm_ev C d call cost ak nxe mc ms Q pc' ls (.int (x - x / y * y) :: st) uc us S) : pm_ev C d call cost ak nxe mc ms Q pc ls (.int y :: .int x :: st) uc us S := by
  refine pm_go hc ?_
  unfold pm_step
  rw [hpc]
  subst hp; exact ⟨h0, k⟩
theorem g_ladd {x y : Int64}  (hc : ∀ j as S (Q Q' : pQ), (∀ o S, Q o S → Q' o S) → call j as S Q → call j as S Q') (hpc : pc_in C pc = some (.ladd, tg)) (hp : pc + 1 = pc') (k : pm_ev C d call cost ak nxe mc ms Q pc' ls (.long (x + y) :: st) uc us S) : pm_ev C d call cost ak nxe mc ms Q pc ls (.long y :: .long x :: st) uc us S := by
  refine pm_go hc ?_
  unfold pm_step
  rw [hpc]
  subst hp; exact k
theorem g_lsub {x y : Int64}  (hc : ∀ j as S (Q Q' : pQ), (∀ o S, Q o S → Q' o S) → call j as S Q → call j as S Q') (hpc : pc_in C pc = some (.lsub, tg)) (hp : pc + 1 = pc') (k : pm_ev C d call cost ak nxe mc ms Q pc' ls (.long (x - y) :: st) uc us S) : pm_ev C d call cost ak nxe mc ms Q pc ls (.long y :: .long x :: st) uc us S := by
  refine pm_go hc ?_
  unfold pm_step
  rw [hpc]
  subst hp; exact k
theorem g_land {x y : Int64}  (hc : ∀ j as S (Q Q' : pQ), (∀ o S, Q o S → Q' o S) → call j as S Q → call j as S Q') (hpc : pc_in C pc = some (.land, tg)) (hp : pc + 1 = pc') (k : pm_ev C d call cost ak nxe mc ms Q pc' ls (.long (x &&& y) :: st) uc us S) : pm_ev C d call cost ak nxe mc ms Q pc ls (.long y :: .long x :: st) uc us S := by
  refine pm_go hc ?_
  unfold pm_step
  rw [hpc]
  subst hp; exact k
theorem g_lor {x y : Int64}  (hc : ∀ j as S (Q Q' : pQ), (∀ o S, Q o S → Q' o S) → call j as S Q → call j as S Q') (hpc : pc_in C pc = some (.lor, tg)) (hp : pc + 1 = pc') (k : pm_ev C d call cost ak nxe mc ms Q pc' ls (.long (x ||| y) :: st) uc us S) : pm_ev C d call cost ak nxe mc ms Q pc ls (.long y :: .long x :: st) uc us S := by
  refine pm_go hc ?_
  unfold pm_step
  rw [hpc]
  subst hp; exact k
theorem g_lxor {x y : Int64}  (hc : ∀ j as S (Q Q' : pQ), (∀ o S, Q o S → Q' o S) → call j as S Q → call j as S Q') (hpc : pc_in C pc = some (.lxor, tg)) (hp : pc + 1 = pc') (k : pm_ev C d call cost ak nxe mc ms Q pc' ls (.long (x ^^^ y) :: st) uc us S) : pm_ev C d call cost ak nxe mc ms Q pc ls (.long y :: .long x :: st) uc us S := by
  refine pm_go hc ?_
  unfold pm_step
  rw [hpc]
  subst hp; exact k
theorem g_lcmp {x y : Int64}  (hc : ∀ j as S (Q Q' : pQ), (∀ o S, Q o S → Q' o S) → call j as S Q → call j as S Q') (hpc : pc_in C pc = some (.lcmp, tg)) (hp : pc + 1 = pc') (k : pm_ev C d call cost ak nxe mc ms Q pc' ls (.int (lg_cmp x y) :: st) uc us S) : pm_ev C d call cost ak nxe mc ms Q pc ls (.long y :: .long x :: st) uc us S := by
  refine pm_go hc ?_
  unfold pm_step
  rw [hpc]
  subst hp; exact k
theorem g_lshl {x : Int64} {y : Int32}  (hc : ∀ j as S (Q Q' : pQ), (∀ o S, Q o S → Q' o S) → call j as S Q → call j as S Q') (hpc : pc_in C pc = some (.lshl, tg)) (hp : pc + 1 = pc') (k : pm_ev C d call cost ak nxe mc ms Q pc' ls (.long (x <<< (y.toInt64 &&& 63)) :: st) uc us S) : pm_ev C d call cost ak nxe mc ms Q pc ls (.int y :: .long x :: st) uc us S := by
  refine pm_go hc ?_
  unfold pm_step
  rw [hpc]
  subst hp; exact k
theorem g_lushr {x : Int64} {y : Int32}  (hc : ∀ j as S (Q Q' : pQ), (∀ o S, Q o S → Q' o S) → call j as S Q → call j as S Q') (hpc : pc_in C pc = some (.lushr, tg)) (hp : pc + 1 = pc') (k : pm_ev C d call cost ak nxe mc ms Q pc' ls (.long (x.toUInt64 >>> (y.toInt64.toUInt64 &&& Int64.toUInt64 63)).toInt64 :: st) uc us S) : pm_ev C d call cost ak nxe mc ms Q pc ls (.int y :: .long x :: st) uc us S := by
  refine pm_go hc ?_
  unfold pm_step
  rw [hpc]
  subst hp; exact k
theorem g_i2l {x : Int32}  (hc : ∀ j as S (Q Q' : pQ), (∀ o S, Q o S → Q' o S) → call j as S Q → call j as S Q') (hpc : pc_in C pc = some (.i2l, tg)) (hp : pc + 1 = pc') (k : pm_ev C d call cost ak nxe mc ms Q pc' ls (.long x.toInt64 :: st) uc us S) : pm_ev C d call cost ak nxe mc ms Q pc ls (.int x :: st) uc us S := by
  refine pm_go hc ?_
  unfold pm_step
  rw [hpc]
  subst hp; exact k
theorem g_l2i {x : Int64}  (hc : ∀ j as S (Q Q' : pQ), (∀ o S, Q o S → Q' o S) → call j as S Q → call j as S Q') (hpc : pc_in C pc = some (.l2i, tg)) (hp : pc + 1 = pc') (k : pm_ev C d call cost ak nxe mc ms Q pc' ls (.int x.toInt32 :: st) uc us S) : pm_ev C d call cost ak nxe mc ms Q pc ls (.long x :: st) uc us S := by
  refine pm_go hc ?_
  unfold pm_step
  rw [hpc]
  subst hp; exact k
theorem g_i2c {x : Int32}  (hc : ∀ j as S (Q Q' : pQ), (∀ o S, Q o S → Q' o S) → call j as S Q → call j as S Q') (hpc : pc_in C pc = some (.i2c, tg)) (hp : pc + 1 = pc') (k : pm_ev C d call cost ak nxe mc ms Q pc' ls (.int (x.toUInt32 % 65536).toInt32 :: st) uc us S) : pm_ev C d call cost ak nxe mc ms Q pc ls (.int x :: st) uc us S := by
  refine pm_go hc ?_
  unfold pm_step
  rw [hpc]
  subst hp; exact k
theorem g_dup {v : Value} (hc : ∀ j as S (Q Q' : pQ), (∀ o S, Q o S → Q' o S) → call j as S Q → call j as S Q') (hpc : pc_in C pc = some (.dup, tg)) (hv : v.category = 1) (hp : pc + 1 = pc') (k : pm_ev C d call cost ak nxe mc ms Q pc' ls (v :: v :: st) uc us S) : pm_ev C d call cost ak nxe mc ms Q pc ls (v :: st) uc us S := by
  refine pm_go hc ?_
  unfold pm_step
  rw [hpc]
  subst hp; exact ⟨hv, k⟩
theorem g_pop {v : Value} (hc : ∀ j as S (Q Q' : pQ), (∀ o S, Q o S → Q' o S) → call j as S Q → call j as S Q') (hpc : pc_in C pc = some (.pop, tg)) (hv : v.category = 1) (hp : pc + 1 = pc') (k : pm_ev C d call cost ak nxe mc ms Q pc' ls (st) uc us S) : pm_ev C d call cost ak nxe mc ms Q pc ls (v :: st) uc us S := by
  refine pm_go hc ?_
  unfold pm_step
  rw [hpc]
  subst hp; exact ⟨hv, k⟩
theorem g_dup2 {v w : Value} (hc : ∀ j as S (Q Q' : pQ), (∀ o S, Q o S → Q' o S) → call j as S Q → call j as S Q') (hpc : pc_in C pc = some (.dup2, tg)) (hv : v.category = 1) (hw : w.category = 1) (hp : pc + 1 = pc') (k : pm_ev C d call cost ak nxe mc ms Q pc' ls (v :: w :: v :: w :: st) uc us S) : pm_ev C d call cost ak nxe mc ms Q pc ls (v :: w :: st) uc us S := by
  refine pm_go hc ?_
  unfold pm_step
  rw [hpc]
  subst hp; exact ⟨hv, hw, k⟩
theorem g_goto {o : Int} (hc : ∀ j as S (Q Q' : pQ), (∀ o S, Q o S → Q' o S) → call j as S Q → call j as S Q') (hpc : pc_in C pc = some (.goto o, tg)) (k : pm_ev C d call cost ak nxe mc ms Q tg ls (st) uc us S) : pm_ev C d call cost ak nxe mc ms Q pc ls (st) uc us S := by
  refine pm_go hc ?_
  unfold pm_step
  rw [hpc]
  exact k
theorem g_if_eq {o : Int} {x : Int32} (hc : ∀ j as S (Q Q' : pQ), (∀ o S, Q o S → Q' o S) → call j as S Q → call j as S Q') (hpc : pc_in C pc = some (.ifCond .eq o, tg)) (hp : pc + 3 = pc') (k1 : x = 0 → pm_ev C d call cost ak nxe mc ms Q tg ls st uc us S) (k2 : ¬ x = 0 → pm_ev C d call cost ak nxe mc ms Q pc' ls st uc us S) : pm_ev C d call cost ak nxe mc ms Q pc ls (.int x :: st) uc us S := by
  refine pm_go hc ?_
  unfold pm_step
  rw [hpc]
  subst hp; exact ⟨k1, k2⟩
theorem g_icmp_eq {o : Int} {x y : Int32} (hc : ∀ j as S (Q Q' : pQ), (∀ o S, Q o S → Q' o S) → call j as S Q → call j as S Q') (hpc : pc_in C pc = some (.if_icmp .eq o, tg)) (hp : pc + 3 = pc') (k1 : x = y → pm_ev C d call cost ak nxe mc ms Q tg ls st uc us S) (k2 : ¬ x = y → pm_ev C d call cost ak nxe mc ms Q pc' ls st uc us S) : pm_ev C d call cost ak nxe mc ms Q pc ls (.int y :: .int x :: st) uc us S := by
  refine pm_go hc ?_
  unfold pm_step
  rw [hpc]
  subst hp; exact ⟨k1, k2⟩
theorem g_if_ne {o : Int} {x : Int32} (hc : ∀ j as S (Q Q' : pQ), (∀ o S, Q o S → Q' o S) → call j as S Q → call j as S Q') (hpc : pc_in C pc = some (.ifCond .ne o, tg)) (hp : pc + 3 = pc') (k1 : ¬ x = 0 → pm_ev C d call cost ak nxe mc ms Q tg ls st uc us S) (k2 : x = 0 → pm_ev C d call cost ak nxe mc ms Q pc' ls st uc us S) : pm_ev C d call cost ak nxe mc ms Q pc ls (.int x :: st) uc us S := by
  refine pm_go hc ?_
  unfold pm_step
  rw [hpc]
  subst hp; exact ⟨k1, k2⟩
theorem g_icmp_ne {o : Int} {x y : Int32} (hc : ∀ j as S (Q Q' : pQ), (∀ o S, Q o S → Q' o S) → call j as S Q → call j as S Q') (hpc : pc_in C pc = some (.if_icmp .ne o, tg)) (hp : pc + 3 = pc') (k1 : ¬ x = y → pm_ev C d call cost ak nxe mc ms Q tg ls st uc us S) (k2 : x = y → pm_ev C d call cost ak nxe mc ms Q pc' ls st uc us S) : pm_ev C d call cost ak nxe mc ms Q pc ls (.int y :: .int x :: st) uc us S := by
  refine pm_go hc ?_
  unfold pm_step
  rw [hpc]
  subst hp; exact ⟨k1, k2⟩
theorem g_if_lt {o : Int} {x : Int32} (hc : ∀ j as S (Q Q' : pQ), (∀ o S, Q o S → Q' o S) → call j as S Q → call j as S Q') (hpc : pc_in C pc = some (.ifCond .lt o, tg)) (hp : pc + 3 = pc') (k1 : x < 0 → pm_ev C d call cost ak nxe mc ms Q tg ls st uc us S) (k2 : ¬ x < 0 → pm_ev C d call cost ak nxe mc ms Q pc' ls st uc us S) : pm_ev C d call cost ak nxe mc ms Q pc ls (.int x :: st) uc us S := by
  refine pm_go hc ?_
  unfold pm_step
  rw [hpc]
  subst hp; exact ⟨k1, k2⟩
theorem g_icmp_lt {o : Int} {x y : Int32} (hc : ∀ j as S (Q Q' : pQ), (∀ o S, Q o S → Q' o S) → call j as S Q → call j as S Q') (hpc : pc_in C pc = some (.if_icmp .lt o, tg)) (hp : pc + 3 = pc') (k1 : x < y → pm_ev C d call cost ak nxe mc ms Q tg ls st uc us S) (k2 : ¬ x < y → pm_ev C d call cost ak nxe mc ms Q pc' ls st uc us S) : pm_ev C d call cost ak nxe mc ms Q pc ls (.int y :: .int x :: st) uc us S := by
  refine pm_go hc ?_
  unfold pm_step
  rw [hpc]
  subst hp; exact ⟨k1, k2⟩
theorem g_if_ge {o : Int} {x : Int32} (hc : ∀ j as S (Q Q' : pQ), (∀ o S, Q o S → Q' o S) → call j as S Q → call j as S Q') (hpc : pc_in C pc = some (.ifCond .ge o, tg)) (hp : pc + 3 = pc') (k1 : 0 ≤ x → pm_ev C d call cost ak nxe mc ms Q tg ls st uc us S) (k2 : ¬ 0 ≤ x → pm_ev C d call cost ak nxe mc ms Q pc' ls st uc us S) : pm_ev C d call cost ak nxe mc ms Q pc ls (.int x :: st) uc us S := by
  refine pm_go hc ?_
  unfold pm_step
  rw [hpc]
  subst hp; exact ⟨k1, k2⟩
theorem g_icmp_ge {o : Int} {x y : Int32} (hc : ∀ j as S (Q Q' : pQ), (∀ o S, Q o S → Q' o S) → call j as S Q → call j as S Q') (hpc : pc_in C pc = some (.if_icmp .ge o, tg)) (hp : pc + 3 = pc') (k1 : y ≤ x → pm_ev C d call cost ak nxe mc ms Q tg ls st uc us S) (k2 : ¬ y ≤ x → pm_ev C d call cost ak nxe mc ms Q pc' ls st uc us S) : pm_ev C d call cost ak nxe mc ms Q pc ls (.int y :: .int x :: st) uc us S := by
  refine pm_go hc ?_
  unfold pm_step
  rw [hpc]
  subst hp; exact ⟨k1, k2⟩
theorem g_if_gt {o : Int} {x : Int32} (hc : ∀ j as S (Q Q' : pQ), (∀ o S, Q o S → Q' o S) → call j as S Q → call j as S Q') (hpc : pc_in C pc = some (.ifCond .gt o, tg)) (hp : pc + 3 = pc') (k1 : 0 < x → pm_ev C d call cost ak nxe mc ms Q tg ls st uc us S) (k2 : ¬ 0 < x → pm_ev C d call cost ak nxe mc ms Q pc' ls st uc us S) : pm_ev C d call cost ak nxe mc ms Q pc ls (.int x :: st) uc us S := by
  refine pm_go hc ?_
  unfold pm_step
  rw [hpc]
  subst hp; exact ⟨k1, k2⟩
theorem g_icmp_gt {o : Int} {x y : Int32} (hc : ∀ j as S (Q Q' : pQ), (∀ o S, Q o S → Q' o S) → call j as S Q → call j as S Q') (hpc : pc_in C pc = some (.if_icmp .gt o, tg)) (hp : pc + 3 = pc') (k1 : y < x → pm_ev C d call cost ak nxe mc ms Q tg ls st uc us S) (k2 : ¬ y < x → pm_ev C d call cost ak nxe mc ms Q pc' ls st uc us S) : pm_ev C d call cost ak nxe mc ms Q pc ls (.int y :: .int x :: st) uc us S := by
  refine pm_go hc ?_
  unfold pm_step
  rw [hpc]
  subst hp; exact ⟨k1, k2⟩
theorem g_if_le {o : Int} {x : Int32} (hc : ∀ j as S (Q Q' : pQ), (∀ o S, Q o S → Q' o S) → call j as S Q → call j as S Q') (hpc : pc_in C pc = some (.ifCond .le o, tg)) (hp : pc + 3 = pc') (k1 : x ≤ 0 → pm_ev C d call cost ak nxe mc ms Q tg ls st uc us S) (k2 : ¬ x ≤ 0 → pm_ev C d call cost ak nxe mc ms Q pc' ls st uc us S) : pm_ev C d call cost ak nxe mc ms Q pc ls (.int x :: st) uc us S := by
  refine pm_go hc ?_
  unfold pm_step
  rw [hpc]
  subst hp; exact ⟨k1, k2⟩
theorem g_icmp_le {o : Int} {x y : Int32} (hc : ∀ j as S (Q Q' : pQ), (∀ o S, Q o S → Q' o S) → call j as S Q → call j as S Q') (hpc : pc_in C pc = some (.if_icmp .le o, tg)) (hp : pc + 3 = pc') (k1 : x ≤ y → pm_ev C d call cost ak nxe mc ms Q tg ls st uc us S) (k2 : ¬ x ≤ y → pm_ev C d call cost ak nxe mc ms Q pc' ls st uc us S) : pm_ev C d call cost ak nxe mc ms Q pc ls (.int y :: .int x :: st) uc us S := by
  refine pm_go hc ?_
  unfold pm_step
  rw [hpc]
  subst hp; exact ⟨k1, k2⟩
theorem g_getfield {i a ci kf : Nat} {fs : List Value} {v : Value} (hc : ∀ j as S (Q Q' : pQ), (∀ o S, Q o S → Q' o S) → call j as S Q → call j as S Q') (hpc : pc_in C pc = some (.getfield i, tg)) (hf : pc_fl C i = some (ci, kf)) (ha : a < S.1) (hS : S.2 a = .inr (ci, fs)) (hv : fs[kf]? = some v) (hp : pc + 3 = pc') (k : pm_ev C d call cost ak nxe mc ms Q pc' ls (v :: st) uc us S) : pm_ev C d call cost ak nxe mc ms Q pc ls (.ref a :: st) uc us S := by
  refine pm_go hc ?_
  unfold pm_step
  rw [hpc]
  subst hp; dsimp only; rw [hf]; refine ⟨ha, ?_⟩; rw [hS]; refine ⟨rfl, ?_⟩; show pm_o (fs[kf]?) _; rw [hv]; exact k
theorem g_putfield {i a ci kf : Nat} {fs : List Value} {v : Value} {ty : FieldType} {fin : Bool} (hc : ∀ j as S (Q Q' : pQ), (∀ o S, Q o S → Q' o S) → call j as S Q → call j as S Q') (hpc : pc_in C pc = some (.putfield i, tg)) (hf : pc_fl C i = some (ci, kf)) (ha : a < S.1) (hS : S.2 a = .inr (ci, fs)) (hlt : kf < fs.length) (ht : pm_ft ci kf = some (ty, fin)) (hfit : pm_fit ty v = true) (hfin : fin = true → pc_ini C = true) (hp : pc + 3 = pc') (k : pm_ev C d call cost ak nxe mc ms Q pc' ls (st) uc us (pm_up S a (.inr (ci, fs.set kf v)))) : pm_ev C d call cost ak nxe mc ms Q pc ls (v :: .ref a :: st) uc us S := by
  refine pm_go hc ?_
  unfold pm_step
  rw [hpc]
  subst hp; dsimp only; rw [hf]; refine ⟨ha, ?_⟩; rw [hS]; refine ⟨rfl, hlt, ?_⟩; show pm_o (pm_ft ci kf) _; rw [ht]; exact ⟨hfit, hfin, k⟩
theorem g_iaload {a n : Nat} {i : Int32} {f : Nat → Int32} (hc : ∀ j as S (Q Q' : pQ), (∀ o S, Q o S → Q' o S) → call j as S Q → call j as S Q') (hpc : pc_in C pc = some (.iaload, tg)) (ha : a < S.1) (hS : S.2 a = .inl (0, n, .inl f)) (hi : ¬ (i < 0 ∨ n ≤ i.toNatClampNeg)) (hp : pc + 1 = pc') (k : pm_ev C d call cost ak nxe mc ms Q pc' ls (.int (f i.toNatClampNeg) :: st) uc us S) : pm_ev C d call cost ak nxe mc ms Q pc ls (.int i :: .ref a :: st) uc us S := by
  refine pm_go hc ?_
  unfold pm_step
  rw [hpc]
  subst hp; show pm_ar S a 0 _; refine ⟨ha, ?_⟩; rw [hS]; exact ⟨rfl, hi, k⟩
theorem g_iaload_s {L : Nat} {xs : Nat → Int32} {i : Int32} (hc : ∀ j as S (Q Q' : pQ), (∀ o S, Q o S → Q' o S) → call j as S Q → call j as S Q') (hpc : pc_in C pc = some (.iaload, tg)) (hs : pc_sc C = some (L, xs)) (hi : ¬ (i < 0 ∨ L ≤ i.toNatClampNeg)) (hp : pc + 1 = pc') (k : pm_ev C d call cost ak nxe mc ms Q pc' ls (.int (xs i.toNatClampNeg) :: st) uc us S) : pm_ev C d call cost ak nxe mc ms Q pc ls (.int i :: .retAddr 1000 :: st) uc us S := by
  refine pm_go hc ?_
  unfold pm_step
  rw [hpc]
  subst hp; refine ⟨rfl, ?_⟩; rw [hs]; exact ⟨hi, k⟩
theorem g_arraylength_s {L : Nat} {xs : Nat → Int32} (hc : ∀ j as S (Q Q' : pQ), (∀ o S, Q o S → Q' o S) → call j as S Q → call j as S Q') (hpc : pc_in C pc = some (.arraylength, tg)) (hs : pc_sc C = some (L, xs)) (hp : pc + 1 = pc') (k : pm_ev C d call cost ak nxe mc ms Q pc' ls (.int (Int32.ofNat L) :: st) uc us S) : pm_ev C d call cost ak nxe mc ms Q pc ls (.retAddr 1000 :: st) uc us S := by
  refine pm_go hc ?_
  unfold pm_step
  rw [hpc]
  subst hp; refine ⟨rfl, ?_⟩; rw [hs]; exact k
theorem g_caload {a n : Nat} {i : Int32} {f : Nat → Int32} (hc : ∀ j as S (Q Q' : pQ), (∀ o S, Q o S → Q' o S) → call j as S Q → call j as S Q') (hpc : pc_in C pc = some (.caload, tg)) (ha : a < S.1) (hS : S.2 a = .inl (2, n, .inl f)) (hi : ¬ (i < 0 ∨ n ≤ i.toNatClampNeg)) (hp : pc + 1 = pc') (k : pm_ev C d call cost ak nxe mc ms Q pc' ls (.int (f i.toNatClampNeg) :: st) uc us S) : pm_ev C d call cost ak nxe mc ms Q pc ls (.int i :: .ref a :: st) uc us S := by
  refine pm_go hc ?_
  unfold pm_step
  rw [hpc]
  subst hp; show pm_ar S a 2 _; refine ⟨ha, ?_⟩; rw [hS]; exact ⟨rfl, hi, k⟩
theorem g_baload {a n : Nat} {i : Int32} {f : Nat → Int32} (hc : ∀ j as S (Q Q' : pQ), (∀ o S, Q o S → Q' o S) → call j as S Q → call j as S Q') (hpc : pc_in C pc = some (.baload, tg)) (ha : a < S.1) (hS : S.2 a = .inl (3, n, .inl f)) (hi : ¬ (i < 0 ∨ n ≤ i.toNatClampNeg)) (hp : pc + 1 = pc') (k : pm_ev C d call cost ak nxe mc ms Q pc' ls (.int (f i.toNatClampNeg) :: st) uc us S) : pm_ev C d call cost ak nxe mc ms Q pc ls (.int i :: .ref a :: st) uc us S := by
  refine pm_go hc ?_
  unfold pm_step
  rw [hpc]
  subst hp; show pm_ar S a 3 _; refine ⟨ha, ?_⟩; rw [hS]; exact ⟨rfl, hi, k⟩
theorem g_laload {a n : Nat} {i : Int32} {f : Nat → Int64} (hc : ∀ j as S (Q Q' : pQ), (∀ o S, Q o S → Q' o S) → call j as S Q → call j as S Q') (hpc : pc_in C pc = some (.laload, tg)) (ha : a < S.1) (hS : S.2 a = .inl (1, n, .inr f)) (hi : ¬ (i < 0 ∨ n ≤ i.toNatClampNeg)) (hp : pc + 1 = pc') (k : pm_ev C d call cost ak nxe mc ms Q pc' ls (.long (f i.toNatClampNeg) :: st) uc us S) : pm_ev C d call cost ak nxe mc ms Q pc ls (.int i :: .ref a :: st) uc us S := by
  refine pm_go hc ?_
  unfold pm_step
  rw [hpc]
  subst hp; show pm_aj S a _; refine ⟨ha, ?_⟩; rw [hS]; exact ⟨rfl, hi, k⟩
theorem g_iastore {a n : Nat} {i x : Int32} {f : Nat → Int32} (hc : ∀ j as S (Q Q' : pQ), (∀ o S, Q o S → Q' o S) → call j as S Q → call j as S Q') (hpc : pc_in C pc = some (.iastore, tg)) (ha : a < S.1) (hS : S.2 a = .inl (0, n, .inl f)) (hi : ¬ (i < 0 ∨ n ≤ i.toNatClampNeg)) (hp : pc + 1 = pc') (k : pm_ev C d call cost ak nxe mc ms Q pc' ls (st) uc us (pm_up S a (.inl (0, n, .inl (upd f i.toNatClampNeg (x)))))) : pm_ev C d call cost ak nxe mc ms Q pc ls (.int x :: .int i :: .ref a :: st) uc us S := by
  refine pm_go hc ?_
  unfold pm_step
  rw [hpc]
  subst hp; show pm_ar S a 0 _; refine ⟨ha, ?_⟩; rw [hS]; exact ⟨rfl, hi, k⟩
theorem g_castore {a n : Nat} {i x : Int32} {f : Nat → Int32} (hc : ∀ j as S (Q Q' : pQ), (∀ o S, Q o S → Q' o S) → call j as S Q → call j as S Q') (hpc : pc_in C pc = some (.castore, tg)) (ha : a < S.1) (hS : S.2 a = .inl (2, n, .inl f)) (hi : ¬ (i < 0 ∨ n ≤ i.toNatClampNeg)) (hp : pc + 1 = pc') (k : pm_ev C d call cost ak nxe mc ms Q pc' ls (st) uc us (pm_up S a (.inl (2, n, .inl (upd f i.toNatClampNeg (vp_nar .char x)))))) : pm_ev C d call cost ak nxe mc ms Q pc ls (.int x :: .int i :: .ref a :: st) uc us S := by
  refine pm_go hc ?_
  unfold pm_step
  rw [hpc]
  subst hp; show pm_ar S a 2 _; refine ⟨ha, ?_⟩; rw [hS]; exact ⟨rfl, hi, k⟩
theorem g_bastore {a n : Nat} {i x : Int32} {f : Nat → Int32} (hc : ∀ j as S (Q Q' : pQ), (∀ o S, Q o S → Q' o S) → call j as S Q → call j as S Q') (hpc : pc_in C pc = some (.bastore, tg)) (ha : a < S.1) (hS : S.2 a = .inl (3, n, .inl f)) (hi : ¬ (i < 0 ∨ n ≤ i.toNatClampNeg)) (hp : pc + 1 = pc') (k : pm_ev C d call cost ak nxe mc ms Q pc' ls (st) uc us (pm_up S a (.inl (3, n, .inl (upd f i.toNatClampNeg (vp_nar .boolean x)))))) : pm_ev C d call cost ak nxe mc ms Q pc ls (.int x :: .int i :: .ref a :: st) uc us S := by
  refine pm_go hc ?_
  unfold pm_step
  rw [hpc]
  subst hp; show pm_ar S a 3 _; refine ⟨ha, ?_⟩; rw [hS]; exact ⟨rfl, hi, k⟩
theorem g_lastore {a n : Nat} {i : Int32} {x : Int64} {f : Nat → Int64} (hc : ∀ j as S (Q Q' : pQ), (∀ o S, Q o S → Q' o S) → call j as S Q → call j as S Q') (hpc : pc_in C pc = some (.lastore, tg)) (ha : a < S.1) (hS : S.2 a = .inl (1, n, .inr f)) (hi : ¬ (i < 0 ∨ n ≤ i.toNatClampNeg)) (hp : pc + 1 = pc') (k : pm_ev C d call cost ak nxe mc ms Q pc' ls (st) uc us (pm_up S a (.inl (1, n, .inr (vp_updL f i.toNatClampNeg x))))) : pm_ev C d call cost ak nxe mc ms Q pc ls (.long x :: .int i :: .ref a :: st) uc us S := by
  refine pm_go hc ?_
  unfold pm_step
  rw [hpc]
  subst hp; show pm_aj S a _; refine ⟨ha, ?_⟩; rw [hS]; exact ⟨rfl, hi, k⟩
theorem g_arraylength {a n kd : Nat} {f : Nat → Int32} (hc : ∀ j as S (Q Q' : pQ), (∀ o S, Q o S → Q' o S) → call j as S Q → call j as S Q') (hpc : pc_in C pc = some (.arraylength, tg)) (ha : a < S.1) (hS : S.2 a = .inl (kd, n, .inl f)) (hk : kd < 4 ∧ kd ≠ 1) (hp : pc + 1 = pc') (k : pm_ev C d call cost ak nxe mc ms Q pc' ls (.int (Int32.ofNat n) :: st) uc us S) : pm_ev C d call cost ak nxe mc ms Q pc ls (.ref a :: st) uc us S := by
  refine pm_go hc ?_
  unfold pm_step
  rw [hpc]
  subst hp; show pm_an S a _; refine ⟨ha, ?_⟩; rw [hS]; exact ⟨hk.1, hk.2, k⟩
theorem g_ireturn {x : Int32} {ty : FieldType} (hc : ∀ j as S (Q Q' : pQ), (∀ o S, Q o S → Q' o S) → call j as S Q → call j as S Q') (hpc : pc_in C pc = some (.ireturn, tg)) (ht : pc_rt C = some ty) (hf : pm_fit ty (.int x) = true) (hu : ak.2 = false → uc = 0 ∧ us = 0) (k : Q (.inl (some (.int x))) S) : pm_ev C d call cost ak nxe mc ms Q pc ls ([.int x]) uc us S := by
  refine pm_go hc ?_
  unfold pm_step
  rw [hpc]
  refine ⟨rfl, ?_⟩; show pm_o (pc_rt C) _; rw [ht]; exact ⟨hf, hu, k⟩
theorem g_lreturn {x : Int64} (hc : ∀ j as S (Q Q' : pQ), (∀ o S, Q o S → Q' o S) → call j as S Q → call j as S Q') (hpc : pc_in C pc = some (.lreturn, tg)) (ht : pc_rt C = some .long) (hu : ak.2 = false → uc = 0 ∧ us = 0) (k : Q (.inl (some (.long x))) S) : pm_ev C d call cost ak nxe mc ms Q pc ls ([.long x]) uc us S := by
  refine pm_go hc ?_
  unfold pm_step
  rw [hpc]
  exact ⟨rfl, ht, hu, k⟩
theorem g_return  (hc : ∀ j as S (Q Q' : pQ), (∀ o S, Q o S → Q' o S) → call j as S Q → call j as S Q') (hpc : pc_in C pc = some (.return_, tg)) (ht : pc_rt C = none) (hu : ak.2 = false → uc = 0 ∧ us = 0) (k : Q (.inl none) S) : pm_ev C d call cost ak nxe mc ms Q pc ls ([]) uc us S := by
  refine pm_go hc ?_
  unfold pm_step
  rw [hpc]
  exact ⟨rfl, ht, hu, k⟩
theorem g_static {i j n : Nat} {z : Nat} {as : List Value} (hc : ∀ j as S (Q Q' : pQ), (∀ o S, Q o S → Q' o S) → call j as S Q → call j as S Q') (hpc : pc_in C pc = some (.invokestatic i, tg)) (hm : pc_ml C i = some (0, j, n, z)) (hn : as.length = n) (k : pm_inv C call cost ak nxe mc ms Q (pm_ev C d call cost ak nxe mc ms Q) pc ls j as r uc us S) : pm_ev C d call cost ak nxe mc ms Q pc ls (as.reverse ++ r) uc us S := by
  refine pm_go hc ?_
  unfold pm_step
  rw [hpc]
  dsimp only; rw [hm]; refine ⟨by simp [hn], ?_⟩; simpa [← hn] using k
theorem g_helper {i j n : Nat} {z : Nat} {as : List Value} (hc : ∀ j as S (Q Q' : pQ), (∀ o S, Q o S → Q' o S) → call j as S Q → call j as S Q') (hpc : pc_in C pc = some (.invokestatic i, tg)) (hm : pc_ml C i = some (9, j, n, z)) (hn : as.length = n) (k : pm_inv C call cost ak nxe mc ms Q (pm_ev C d call cost ak nxe mc ms Q) pc ls j as r uc us S) : pm_ev C d call cost ak nxe mc ms Q pc ls (as.reverse ++ r) uc us S := by
  refine pm_go hc ?_
  unfold pm_step
  rw [hpc]
  dsimp only; rw [hm]; refine ⟨by simp [hn], ?_⟩; simpa [← hn] using k
theorem g_virtual {i j n a : Nat} {ci : Nat} {fs : List Value} {as : List Value} (hc : ∀ j as S (Q Q' : pQ), (∀ o S, Q o S → Q' o S) → call j as S Q → call j as S Q') (hpc : pc_in C pc = some (.invokevirtual i, tg)) (hm : pc_ml C i = some (1, j, n, ci)) (hn : as.length = n) (ha : a < S.1) (hS : S.2 a = .inr (ci, fs)) (k : pm_inv C call cost ak nxe mc ms Q (pm_ev C d call cost ak nxe mc ms Q) pc ls j (.ref a :: as) r uc us S) : pm_ev C d call cost ak nxe mc ms Q pc ls (as.reverse ++ .ref a :: r) uc us S := by
  refine pm_go hc ?_
  unfold pm_step
  rw [hpc]
  dsimp only; rw [hm]; refine ⟨by simp [hn], ?_⟩; rw [← hn]; simp only [List.take_left', List.drop_left', List.length_reverse, List.reverse_reverse]; refine ⟨⟨ha, ?_⟩, k⟩; rw [hS]; exact ⟨rfl, trivial⟩
end GO
