def pm_mk (il : List (Nat × List (Nat × Instr × Nat))) (fl : List (Nat × (Nat × Nat) × Nat)) (ml : List (Nat × (Nat × Nat × Nat × Nat) × List Nat)) (kc : List (Nat × Value × Nat)) (nw : List (Nat × (Nat × List Value) × (Nat × Nat × Nat))) (th : List (Nat × String × Nat)) (rt : Option FieldType) (ini : Bool) : pC :=
  (fun pc => pm_lk2 il pc, fun i => (pm_lk1 fl i).map Prod.fst, fun i => (pm_lk1 ml i).map Prod.fst, fun i => (pm_lk1 kc i).map Prod.fst, fun i => (pm_lk1 nw i).map Prod.fst, fun pc => (pm_lk1 th pc).map Prod.fst, rt, ini)
def ckW (kc : List (Nat × Value × Nat)) (q : Nat × Instr × Nat) : Bool := match q.2.1 with
  | .ldc_w i => (match pm_lk1 kc i with
    | some (.retAddr _, _) => false
    | _ => true)
  | _ => true
def ckR (cc : ByteArray) (own : String) (il : List (Nat × List (Nat × Instr × Nat))) (fl : List (Nat × (Nat × Nat) × Nat)) (ml : List (Nat × (Nat × Nat × Nat × Nat) × List Nat)) (kc : List (Nat × Value × Nat)) (nw : List (Nat × (Nat × List Value) × (Nat × Nat × Nat))) (th : List (Nat × String × Nat)) (ini : Bool) : Bool :=
  fl.all (ckF own ini) && (ml.all (ckM own) && (kc.all (ckK own) && (nw.all (ckN own) && (th.all (ckX cc own) && (il.all (fun q => q.2.all (ckW kc)))))))
def ckCl (q : String × u_T × Nat × List Nat) : Bool := (List.range q.2.2.1).all (fun k => inT (q.2.2.2.getD k 0) (u_lay q.1 q.2.1 k))
theorem ckCl_ok {q : String × u_T × Nat × List Nat} (h : ckCl q = true) (c : Cond) : ∀ w ∈ u_ws q.1 q.2.1 q.2.2.1, w ∈ c :: TW := by
  intro w hw
  obtain ⟨k, hk, rfl⟩ := List.mem_map.mp hw
  exact List.mem_cons_of_mem _ (inT_ok (List.all_eq_true.mp h k hk))
theorem pm_T_of {l : Launch} (hl : l.stackTraces = false) {n0 : Nat} {sa sv : Nat → Nat} (hCl : ∀ c, pm_okC (c :: TW)) (hAr : ∀ (c : Cond) t, Cond.arrayClass (newarray.typeOf t) ∈ c :: TW ∨ pm_akd t = none) {j : Nat} {cc : ByteArray} {own : String} {il : List (Nat × List (Nat × Instr × Nat))} {fl : List (Nat × (Nat × Nat) × Nat)} {ml : List (Nat × (Nat × Nat × Nat × Nat) × List Nat)} {kc : List (Nat × Value × Nat)} {nw : List (Nat × (Nat × List Value) × (Nat × Nat × Nat))} {th : List (Nat × String × Nat)} {rt : Option FieldType} {ini : Bool}
    (h1 : il.all (fun q => q.2.all (pm_ckI cc)) = true) (h2 : ckR cc own il fl ml kc nw th ini = true) (s : State) (args : Array Value) (_ : ∀ w ∈ pm_ws Y TW j, w.before args s = true) (hG : GG n0 sa sv s) : pm_T l s args n0 sa (pm_mk il fl ml kc nw th rt ini) cc own (pm_ws Y TW j) TW Y := by
  unfold ckR at h2
  simp only [Bool.and_eq_true] at h2
  obtain ⟨c1, c2, c3, c4, c5, c6⟩ := h2
  refine ⟨pm_ckI_ok h1, fun i ci k h => ckF_ok c1 h, fun i q h => ckM_ok hG c2 h, fun i v h => ckK_ok hG c3 h, fun pc i tg h k hk => ?_, fun i ci fs h => ckN_ok c4 h, fun pc E h => ckX_ok hl hG c5 h args, hAr _, hCl _, TW_ok [] _⟩
  obtain ⟨q, g1, g2⟩ := pm_lk2_mem h
  have g3 := List.all_eq_true.mp (List.all_eq_true.mp c6 q g1) _ g2
  unfold ckW at g3
  dsimp only at g3
  have hk' : (pm_lk1 kc i).map Prod.fst = some (.retAddr k) := hk
  cases hq : pm_lk1 kc i with
  | none => rw [hq] at hk'; cases hk'
  | some w =>
    obtain ⟨v, ps⟩ := w
    rw [hq] at hk' g3
    have : v = .retAddr k := Option.some.inj hk'
    subst this
    cases g3
