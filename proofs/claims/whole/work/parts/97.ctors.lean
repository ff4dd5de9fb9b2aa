/-! THE CONSTRUCTORS: heaps as lists of cells -/
def hN (df : Nat → pE) (l : List pE) : pS := (l.length, fun a => (l[a]?).getD (df a))
abbrev zA (n : Nat) : pE := pm_na 0 n
abbrev zK (kd n : Nat) : pE := pm_na kd n
theorem hN_at {df : Nat → pE} {l : List pE} {a : Nat} {e : pE} (h : l[a]? = some e) : (hN df l).2 a = e := by
  show (l[a]?).getD (df a) = e
  rw [h]; rfl
theorem hN_lt {df : Nat → pE} {l : List pE} {a : Nat} {e : pE} (h : l[a]? = some e) : a < (hN df l).1 := (List.getElem?_eq_some_iff.mp h).1
theorem hN_up {df : Nat → pE} {l : List pE} {a : Nat} {e : pE} (h : a < l.length) : pm_up (hN df l) a e = hN df (l.set a e) := by
  refine Prod.ext ?_ ?_
  · show l.length = (l.set a e).length
    rw [List.length_set]
  · funext b
    show va_up (hN df l).2 a e b = ((l.set a e)[b]?).getD (df b)
    unfold va_up
    by_cases hb : b = a
    · subst hb
      rw [if_pos rfl, List.getElem?_set_self h]; rfl
    · rw [if_neg hb, List.getElem?_set_ne (Ne.symm hb)]; rfl
theorem hN_new {df : Nat → pE} {l : List pE} {e : pE} : ((hN df l).1 + 1, va_up (hN df l).2 (hN df l).1 e) = hN df (l ++ [e]) := by
  refine Prod.ext ?_ ?_
  · show l.length + 1 = (l ++ [e]).length
    simp
  · funext b
    show va_up (hN df l).2 l.length e b = ((l ++ [e])[b]?).getD (df b)
    unfold va_up
    by_cases hb : b = l.length
    · subst hb
      rw [if_pos rfl, List.getElem?_concat_length]; rfl
    · rw [if_neg hb]
      show (l[b]?).getD (df b) = _
      by_cases h2 : b < l.length
      · rw [List.getElem?_append_left h2]
      · rw [List.getElem?_eq_none (by omega), List.getElem?_eq_none (by simp; omega)]
theorem ap_get {l0 b : List pE} {k : Nat} {e : pE} (h : b[k]? = some e) : (l0 ++ b)[l0.length + k]? = some e := by
  rw [List.getElem?_append_right (Nat.le_add_right _ _), Nat.add_sub_cancel_left]; exact h
theorem ap_set {l0 b : List pE} {k : Nat} {e : pE} : (l0 ++ b).set (l0.length + k) e = l0 ++ b.set k e := by
  rw [List.set_append, if_neg (by omega), Nat.add_sub_cancel_left]
section NR
variable {C : pC} {d : Nat} {call : pCall} {ak : Bool × Bool} {nxe mc ms : Nat} {Q : pQ} {pc tg pc' : Nat} {ls : pL} {st r : List Value} {uc us uc' us' : Nat} {df : Nat → pE} {l0 b b' : List pE} {k : Nat}
theorem n_new {i ci : Nat} {fs : List Value} (hc : ∀ j as S (Q Q' : pQ), (∀ o S, Q o S → Q' o S) → call j as S Q → call j as S Q') (hpc : pc_in C pc = some (.new i, tg)) (hth : pc_th C pc = none) (hn : pc_nw C i = some (ci, fs)) (hk : b.length = k) (hu : Nat.ble uc' mc = true) (hs : Nat.ble us' ms = true) (ha : ak.1 = true) (hS : l0.length + k = nxe + uc) (hu1 : uc + 1 = uc') (hs1 : us + fs.length = us') (hb : b ++ [.inr (ci, fs)] = b') (hp : pc + 3 = pc') (kk : pm_ev C d call cost ak nxe mc ms Q pc' ls (.ref (l0.length + k) :: st) uc' us' (hN df (l0 ++ b'))) : pm_ev C d call cost ak nxe mc ms Q pc ls st uc us (hN df (l0 ++ b)) := by
  subst hp; subst hb; subst hu1; subst hs1; subst hk
  refine pm_go hc ?_
  unfold pm_step
  rw [hpc]
  show (match pc_th C pc with | some E => _ | none => _)
  rw [hth]
  show pm_o (pc_nw C i) _
  rw [hn]
  have e : (hN df (l0 ++ b)).1 = l0.length + b.length := List.length_append
  refine ⟨zle hu, zle hs, ⟨ha, by rw [e]; exact hS⟩, ?_⟩
  rw [hN_new, e, List.append_assoc]
  exact kk
theorem n_arr {t : ClassFile.ArrayType} {kd n : Nat} {x : Int32} (hc : ∀ j as S (Q Q' : pQ), (∀ o S, Q o S → Q' o S) → call j as S Q → call j as S Q') (hpc : pc_in C pc = some (.newarray t, tg)) (ht : pm_akd t = some kd) (hx : ¬ x < 0 ∧ x.toNatClampNeg = n ∧ n ≤ 65536) (hk : b.length = k) (hu : Nat.ble uc' mc = true) (hs : Nat.ble us' ms = true) (ha : ak.1 = true) (hS : l0.length + k = nxe + uc) (hu1 : uc + 1 = uc') (hs1 : us + n = us') (hb : b ++ [zK kd n] = b') (hp : pc + 2 = pc') (kk : pm_ev C d call cost ak nxe mc ms Q pc' ls (.ref (l0.length + k) :: st) uc' us' (hN df (l0 ++ b'))) : pm_ev C d call cost ak nxe mc ms Q pc ls (.int x :: st) uc us (hN df (l0 ++ b)) := by
  obtain ⟨hx1, hx2, hx3⟩ := hx
  subst hp; subst hb; subst hu1; subst hs1; subst hk; subst hx2
  refine pm_go hc ?_
  unfold pm_step
  rw [hpc]
  show pm_o (pm_akd t) _
  rw [ht]
  have e : (hN df (l0 ++ b)).1 = l0.length + b.length := List.length_append
  refine ⟨hx1, hx3, zle hu, zle hs, ⟨ha, by rw [e]; exact hS⟩, ?_⟩
  rw [hN_new, e, List.append_assoc]
  exact kk
theorem n_put {i ci kf : Nat} {fs : List Value} {v : Value} {ty : FieldType} {fin : Bool} (hc : ∀ j as S (Q Q' : pQ), (∀ o S, Q o S → Q' o S) → call j as S Q → call j as S Q') (hpc : pc_in C pc = some (.putfield i, tg)) (hf : pc_fl C i = some (ci, kf)) (hb : b[k]? = some (.inr (ci, fs))) (hl : Nat.blt kf fs.length = true) (ht : pm_ft ci kf = some (ty, fin)) (hfit : pm_fit ty v = true) (hfin : fin = true → pc_ini C = true) (hb1 : b.set k (.inr (ci, fs.set kf v)) = b') (hp : pc + 3 = pc') (kk : pm_ev C d call cost ak nxe mc ms Q pc' ls st uc us (hN df (l0 ++ b'))) : pm_ev C d call cost ak nxe mc ms Q pc ls (v :: .ref (l0.length + k) :: st) uc us (hN df (l0 ++ b)) := by
  subst hb1
  refine g_putfield hc hpc hf (hN_lt (ap_get hb)) (hN_at (ap_get hb)) (zlt hl) ht hfit hfin hp ?_
  rw [hN_up (hN_lt (df := df) (ap_get hb)), ap_set]
  exact kk
theorem n_get {i ci kf : Nat} {fs : List Value} {v : Value} (hc : ∀ j as S (Q Q' : pQ), (∀ o S, Q o S → Q' o S) → call j as S Q → call j as S Q') (hpc : pc_in C pc = some (.getfield i, tg)) (hf : pc_fl C i = some (ci, kf)) (hb : b[k]? = some (.inr (ci, fs))) (hv : fs[kf]? = some v) (hp : pc + 3 = pc') (kk : pm_ev C d call cost ak nxe mc ms Q pc' ls (v :: st) uc us (hN df (l0 ++ b))) : pm_ev C d call cost ak nxe mc ms Q pc ls (.ref (l0.length + k) :: st) uc us (hN df (l0 ++ b)) :=
  g_getfield hc hpc hf (hN_lt (ap_get hb)) (hN_at (ap_get hb)) hv hp kk
theorem n_obj {i z0 z1 ci : Nat} {fs : List Value} (hc : ∀ j as S (Q Q' : pQ), (∀ o S, Q o S → Q' o S) → call j as S Q → call j as S Q') (hpc : pc_in C pc = some (.invokespecial i, tg)) (hm : pc_ml C i = some (3, z0, z1, ci)) (hd : 2 ≤ d) (hb : b[k]? = some (.inr (ci, fs))) (hp : pc + 3 = pc') (kk : pm_ev C d call cost ak nxe mc ms Q pc' ls [] uc us (hN df (l0 ++ b))) : pm_ev C d call cost ak nxe mc ms Q pc ls [.ref (l0.length + k)] uc us (hN df (l0 ++ b)) := by
  subst hp
  refine pm_go hc ?_
  unfold pm_step
  rw [hpc]
  show pm_o (pc_ml C i) _
  rw [hm]
  refine ⟨hd, ⟨hN_lt (ap_get hb), ?_⟩, rfl, kk⟩
  rw [hN_at (ap_get hb)]
  exact ⟨rfl, trivial⟩
theorem n_ctor {i j ci x y kk1 : Nat} (hc : ∀ j as S (Q Q' : pQ), (∀ o S, Q o S → Q' o S) → call j as S Q → call j as S Q') (hpc : pc_in C pc = some (.invokespecial i, tg)) (hm : pc_ml C i = some (kk1, j, 0, ci)) (hkk : kk1 = 2 ∨ kk1 = 5) (hco : cost j = (x, y, true, true)) (hr : Nat.ble r.length 4 = true) (hk : b.length = k) (ha : ak.1 = true) (hS : l0.length + k = nxe + uc) (hu : Nat.ble uc' mc = true) (hs : Nat.ble us' ms = true) (hu1 : uc + x = uc') (hs1 : us + y = us') (hp : pc + 3 = pc') {a : Value} (hcall : ∀ Q : pQ, Q (.inl none) (hN df (l0 ++ b')) → call j [a] (hN df (l0 ++ b)) Q) (kk : pm_ev C d call cost ak nxe mc ms Q pc' ls r uc' us' (hN df (l0 ++ b'))) (hav : ∃ n, a = .ref n) : pm_ev C d call cost ak nxe mc ms Q pc ls (a :: r) uc us (hN df (l0 ++ b)) := by
  obtain ⟨n, rfl⟩ := hav
  subst hp; subst hu1; subst hs1; subst hk
  have e : (hN df (l0 ++ b)).1 = l0.length + b.length := List.length_append
  have key : pm_inv C call cost ak nxe mc ms (fun _ _ => False) (pm_ev C d call cost ak nxe mc ms Q) pc ls j [.ref n] r uc us (hN df (l0 ++ b)) := by
    unfold pm_inv
    rw [hco]
    refine ⟨zle hr, zle hu, zle hs, (fun _ => ⟨ha, by rw [e]; exact hS⟩), hcall _ ?_⟩
    show pm_ev _ _ _ _ _ _ _ _ _ (pc + 3) ls r (pm_nu (cost j).2.2.2 uc (cost j).1) (pm_nu (cost j).2.2.2 us (cost j).2.1) _
    rw [hco]
    exact kk
  refine pm_go hc ?_
  unfold pm_step
  rw [hpc]
  show pm_o (pc_ml C i) _
  rw [hm]
  rcases hkk with rfl | rfl
  · exact ⟨Nat.zero_le _, key⟩
  · exact ⟨Nat.zero_le _, key⟩
theorem n_virt {i j m ci : Nat} {as : List Value} {fs : List Value} (hc : ∀ j as S (Q Q' : pQ), (∀ o S, Q o S → Q' o S) → call j as S Q → call j as S Q') (hpc : pc_in C pc = some (.invokevirtual i, tg)) (hm : pc_ml C i = some (1, j, m, ci)) (hn : as.length = m) (hb : b[k]? = some (.inr (ci, fs))) (hst : as.reverse ++ .ref (l0.length + k) :: r = st) (hco : cost j = (0, 0, false, false)) (hr : Nat.ble r.length 4 = true) (hu : Nat.ble uc mc = true) (hs : Nat.ble us ms = true) (hp : pc + 3 = pc') (hcall : ∀ Q : pQ, Q (.inl none) (hN df (l0 ++ b')) → call j (.ref (l0.length + k) :: as) (hN df (l0 ++ b)) Q) (kk : pm_ev C d call cost ak nxe mc ms Q pc' ls r uc us (hN df (l0 ++ b'))) : pm_ev C d call cost ak nxe mc ms Q pc ls st uc us (hN df (l0 ++ b)) := by
  subst hst; subst hp
  refine g_virtual hc hpc hm hn (hN_lt (ap_get hb)) (hN_at (ap_get hb)) ?_
  unfold pm_inv
  rw [hco]
  refine ⟨zle hr, zle hu, zle hs, (fun h => by cases h), hcall _ ?_⟩
  show pm_ev _ _ _ _ _ _ _ _ _ (pc + 3) ls r (pm_nu (cost j).2.2.2 uc (cost j).1) (pm_nu (cost j).2.2.2 us (cost j).2.1) _
  rw [hco]
  exact kk
theorem n_stat {i j m z : Nat} {as : List Value} (hc : ∀ j as S (Q Q' : pQ), (∀ o S, Q o S → Q' o S) → call j as S Q → call j as S Q') (hpc : pc_in C pc = some (.invokestatic i, tg)) (hm : pc_ml C i = some (0, j, m, z)) (hn : as.length = m) (hst : as.reverse ++ r = st) (hco : cost j = (0, 0, false, false)) (hr : Nat.ble r.length 4 = true) (hu : Nat.ble uc mc = true) (hs : Nat.ble us ms = true) (hp : pc + 3 = pc') (hcall : ∀ Q : pQ, Q (.inl none) (hN df (l0 ++ b')) → call j as (hN df (l0 ++ b)) Q) (kk : pm_ev C d call cost ak nxe mc ms Q pc' ls r uc us (hN df (l0 ++ b'))) : pm_ev C d call cost ak nxe mc ms Q pc ls st uc us (hN df (l0 ++ b)) := by
  subst hst; subst hp
  refine g_static hc hpc hm hn ?_
  unfold pm_inv
  rw [hco]
  refine ⟨zle hr, zle hu, zle hs, (fun h => by cases h), hcall _ ?_⟩
  show pm_ev _ _ _ _ _ _ _ _ _ (pc + 3) ls r (pm_nu (cost j).2.2.2 uc (cost j).1) (pm_nu (cost j).2.2.2 us (cost j).2.1) _
  rw [hco]
  exact kk
theorem set_same {l : List pE} {a : Nat} {e : pE} (h : l[a]? = some e) : l.set a e = l := by
  obtain ⟨h1, h2⟩ := List.getElem?_eq_some_iff.mp h
  subst h2
  exact List.set_getElem_self h1
/-- zeros copied over zeros -/
theorem n_cpy {i z0 z1 z2 k2 n : Nat} {x : Int32} (hc : ∀ j as S (Q Q' : pQ), (∀ o S, Q o S → Q' o S) → call j as S Q → call j as S Q') (hpc : pc_in C pc = some (.invokestatic i, tg)) (hm : pc_ml C i = some (4, z0, z1, z2)) (hd : 3 ≤ d) (hb1 : b[k]? = some (zA n)) (hb2 : b[k2]? = some (zA n)) (hx : ¬ x < 0 ∧ x.toNatClampNeg = n) (hp : pc + 3 = pc') (kk : pm_ev C d call cost ak nxe mc ms Q pc' ls [] uc us (hN df (l0 ++ b))) : pm_ev C d call cost ak nxe mc ms Q pc ls [.int x, .int 0, .ref (l0.length + k2), .int 0, .ref (l0.length + k)] uc us (hN df (l0 ++ b)) := by
  subst hp
  obtain ⟨hx1, hx2⟩ := hx
  refine pm_go hc ?_
  unfold pm_step
  rw [hpc]
  show pm_o (pc_ml C i) _
  rw [hm]
  refine ⟨hd, ?_⟩
  have e1 : (hN df (l0 ++ b)).2 (l0.length + k) = .inl (0, n, .inl (fun _ => 0)) := hN_at (ap_get hb1)
  have e2 : (hN df (l0 ++ b)).2 (l0.length + k2) = .inl (0, n, .inl (fun _ => 0)) := hN_at (ap_get hb2)
  show pm_ar (hN df (l0 ++ b)) (l0.length + k) 0 _
  unfold pm_ar
  rw [e1]
  refine ⟨hN_lt (ap_get hb1), rfl, hN_lt (ap_get hb2), ?_⟩
  rw [e2]
  refine ⟨rfl, by decide, by decide, hx1, ?_, ?_, Nat.zero_le _, ?_⟩
  · rw [hx2, show (0 : Int32).toNatClampNeg = 0 by decide]; omega
  · rw [hx2, show (0 : Int32).toNatClampNeg = 0 by decide]; omega
  · have e3 : va_cpy (fun _ => (0 : Int32)) (fun _ => 0) (0 : Int32).toNatClampNeg (0 : Int32).toNatClampNeg x.toNatClampNeg = fun _ => 0 := by
      funext q; unfold va_cpy; split <;> rfl
    rw [e3, hN_up (hN_lt (df := df) (ap_get hb2)), set_same (l := l0 ++ b) (e := .inl (0, n, .inl (fun _ => 0))) (ap_get hb2)]
    exact kk
/-- a zero laid over a zero -/
theorem n_st0 {n : Nat} {x : Int32} (hc : ∀ j as S (Q Q' : pQ), (∀ o S, Q o S → Q' o S) → call j as S Q → call j as S Q') (hpc : pc_in C pc = some (.iastore, tg)) (hb : b[k]? = some (zA n)) (hi : ¬ (x < 0 ∨ n ≤ x.toNatClampNeg)) (hp : pc + 1 = pc') (kk : pm_ev C d call cost ak nxe mc ms Q pc' ls st uc us (hN df (l0 ++ b))) : pm_ev C d call cost ak nxe mc ms Q pc ls (.int 0 :: .int x :: .ref (l0.length + k) :: st) uc us (hN df (l0 ++ b)) := by
  have e1 : (hN df (l0 ++ b)).2 (l0.length + k) = .inl (0, n, .inl (fun _ => 0)) := hN_at (ap_get hb)
  refine g_iastore hc hpc (hN_lt (ap_get hb)) e1 hi hp ?_
  have e3 : upd (fun _ => (0 : Int32)) x.toNatClampNeg 0 = fun _ => 0 := by
    funext q; unfold upd; split <;> rfl
  rw [e3, hN_up (hN_lt (df := df) (ap_get hb)), set_same (l := l0 ++ b) (e := .inl (0, n, .inl (fun _ => 0))) (ap_get hb)]
  exact kk
end NR
theorem in_fill {df : Nat → pE} {l0 b : List pE} {k d : Nat} {Q : pQ} (hb : b[k]? = some (zA 8)) (hd : 1 ≤ d) (hq : Q (.inl none) (hN df (l0 ++ b))) : pm_call M cost zext d 268 [.ref (l0.length + k), .int 0] (hN df (l0 ++ b)) Q := by
  obtain ⟨e, rfl⟩ := zd1 hd rfl
  have hc := pm_call_m (M := M) (cost := cost) zext_m e
  refine pm_in zmt_268 (zle rfl) ?_
  refine g_iconst (v := 0) (pc' := 1) hc rfl zki_0 rfl ?_
  refine g_istore_n (pc' := 2) (ls1 := [some (.ref (l0.length + k)), some (.int 0), some (.int (nI 0)), none]) hc rfl (zlt rfl) rfl rfl ?_
  refine g_aload_n (pc' := 3) hc rfl rfl rfl rfl ?_
  refine g_arraylength (pc' := 4) (n := 8) (kd := 0) (f := fun _ => 0) hc rfl (hN_lt (ap_get hb)) (hN_at (ap_get hb)) ⟨by decide, by decide⟩ rfl ?_
  refine g_istore_n (pc' := 5) (ls1 := [some (.ref (l0.length + k)), some (.int 0), some (.int (nI 0)), some (.int (nI 8))]) hc rfl (zlt rfl) rfl rfl ?_
  have key : ∀ m i : Nat, i + m = 8 → pm_ev C_J7_fill_53178 (e + 1) (pm_call M cost zext e) cost (cost 268).2.2 (hN df (l0 ++ b)).1 (cost 268).1 (cost 268).2.1 Q 5 [some (.ref (l0.length + k)), some (.int 0), some (.int (nI i)), some (.int (nI 8))] [] 0 0 (hN df (l0 ++ b)) := by
    intro m
    induction m with
    | zero =>
      intro i hi
      refine g_iload_n (pc' := 6) hc rfl rfl rfl ?_
      refine g_iload_n (pc' := 7) hc rfl rfl rfl ?_
      refine g_icmp_ge (pc' := 10) hc rfl rfl (fun _ => ?_) (fun h => ?_)
      · exact g_return hc rfl rfl (fun _ => ⟨rfl, rfl⟩) hq
      · exact absurd (by rw [show i = 8 by omega]; decide) h
    | succ m ih =>
      intro i hi
      refine g_iload_n (pc' := 6) hc rfl rfl rfl ?_
      refine g_iload_n (pc' := 7) hc rfl rfl rfl ?_
      refine g_icmp_ge (pc' := 10) hc rfl rfl (fun h => ?_) (fun h => ?_)
      · exfalso
        rw [nI_leI (by decide) (by omega)] at h
        omega
      · refine g_aload_n (pc' := 11) hc rfl rfl rfl rfl ?_
        refine g_iload_n (pc' := 12) hc rfl rfl rfl ?_
        refine g_iload_n (pc' := 13) hc rfl rfl rfl ?_
        refine n_st0 (pc' := 14) hc rfl hb (nI_in (by omega) (by decide)) rfl ?_
        refine g_iinc (pc' := 17) (w := nI 1) (ls1 := [some (.ref (l0.length + k)), some (.int 0), some (.int (nI (i + 1))), some (.int (nI 8))]) hc rfl rfl (by decide +kernel) (zlt rfl) (by rw [nI_add]; rfl) rfl ?_
        refine g_goto hc rfl ?_
        exact ih (i + 1) (by omega)
  exact key 8 0 rfl
