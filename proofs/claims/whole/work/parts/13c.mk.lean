def pm_mk (il : List (Nat × List (Nat × Instr × Nat))) (fl : List (Nat × (Nat × Nat) × Nat)) (ml : List (Nat × (Nat × Nat × Nat × Nat) × List Nat)) (kc : List (Nat × Value × Nat)) (nw : List (Nat × (Nat × List Value) × (Nat × Nat × Nat))) (th : List (Nat × String × Nat)) (rt : Option FieldType) (ini : Bool) (hd : Nat → String → Option (Option Int32)) (sc : Option (Nat × (Nat → Int32))) : pC :=
  (fun pc => pm_lk2 il pc, fun i => (pm_lk1 fl i).map Prod.fst, fun i => (pm_lk1 ml i).map Prod.fst, fun i => (pm_lk1 kc i).map Prod.fst, fun i => (pm_lk1 nw i).map Prod.fst, fun pc => (pm_lk1 th pc).map Prod.fst, rt, ini, hd, sc)
def ckW (kc : List (Nat × Value × Nat)) (q : Nat × Instr × Nat) : Bool := match q.2.1 with
  | .ldc_w i => (match pm_lk1 kc i with
    | some (.retAddr _, _) => false
    | _ => true)
  | _ => true
def ckR (cc : ByteArray) (own : String) (il : List (Nat × List (Nat × Instr × Nat))) (fl : List (Nat × (Nat × Nat) × Nat)) (ml : List (Nat × (Nat × Nat × Nat × Nat) × List Nat)) (kc : List (Nat × Value × Nat)) (nw : List (Nat × (Nat × List Value) × (Nat × Nat × Nat))) (th : List (Nat × String × Nat)) (ini : Bool) : Bool :=
  fl.all (ckF own ini) && (ml.all (ckM own) && (kc.all (ckK own) && (nw.all (ckN own) && (th.all (ckX cc own) && (il.all (fun q => q.2.all (ckW kc)))))))
def ckCl (q : String × u_T × Nat × List Nat) : Bool := (List.range q.2.2.1).all (fun k => inT (q.2.2.2.getD k 0) (u_lay q.1 q.2.1 k))
theorem ckCl_ok {q : String × u_T × Nat × List Nat} (h : ckCl q = true) (c : Cond) : ∀ w ∈ u_ws q.1 q.2.1 q.2.2.1, w ∈ c :: TW := by
  intro w hw
  obtain ⟨k, hk, rfl⟩ := List.mem_map.mp hw
  exact List.mem_cons_of_mem _ (inT_ok (List.all_eq_true.mp h k hk))
theorem pm_T_of {l : Launch} (hl : l.stackTraces = false) {n0 : Nat} {sa sv : Nat → Nat} (hCl : ∀ c, pm_okC (c :: TW)) (hAr : ∀ (c : Cond) t, Cond.arrayClass (newarray.typeOf t) ∈ c :: TW ∨ pm_akd t = none) {c : Cond} {cc : ByteArray} {own : String} {il : List (Nat × List (Nat × Instr × Nat))} {fl : List (Nat × (Nat × Nat) × Nat)} {ml : List (Nat × (Nat × Nat × Nat × Nat) × List Nat)} {kc : List (Nat × Value × Nat)} {nw : List (Nat × (Nat × List Value) × (Nat × Nat × Nat))} {th : List (Nat × String × Nat)} {rt : Option FieldType} {ini : Bool} {hd : Nat → String → Option (Option Int32)} {sc : Option (Nat × (Nat → Int32))}
    (h1 : il.all (fun q => q.2.all (pm_ckI cc)) = true) (h2 : ckR cc own il fl ml kc nw th ini = true) (s : State) (args : Array Value) (hG : GG n0 sa sv s) (hsc : ∀ L xs, sc = some (L, xs) → va_X (sa 1000) L xs s s.heap ∧ sa 1000 < s.heap.size ∧ ¬ n0 ≤ sa 1000 ∧ L < 2 ^ 31) : pm_T l s args n0 sa (pm_mk il fl ml kc nw th rt ini hd sc) cc own (c :: TW) TW Y := by
  unfold ckR at h2
  simp only [Bool.and_eq_true] at h2
  obtain ⟨c1, c2, c3, c4, c5, c6⟩ := h2
  refine ⟨pm_ckI_ok h1, fun i ci k h => ckF_ok c1 h, fun i q h => ckM_ok hG c2 h, fun i v h => ckK_ok hG c3 h, fun pc i tg h k hk => ?_, fun i ci fs h => ckN_ok c4 h, fun pc E h => ckX_ok hl hG c5 h args, hAr _, hCl _, TW_ok [] _, hsc⟩
  obtain ⟨q, g1, g2⟩ := pm_lk2_mem h
  have g3 := List.all_eq_true.mp (List.all_eq_true.mp c6 q g1) _ g2
  unfold ckW at g3
  dsimp only at g3
  have hk' : (pm_lk1 kc i).map Prod.fst = some (.retAddr k) := hk
  cases hq : pm_lk1 kc i with
  | none => rw [hq] at hk'; cases hk'
  | some w =>
    obtain ⟨v, ps⟩ := w
    rw [hq] at hk' g3
    have : v = .retAddr k := Option.some.inj hk'
    subst this
    cases g3
/-- no handler -/
def hd_0 : Nat → String → Option (Option Int32) := fun _ _ => some none
/-- one handler -/
def hd_1 (e : Nat) (E1 : String) : Nat → String → Option (Option Int32) := fun pc E => if pc < e ∧ E = E1 then some (some 1) else none
/-- two handlers -/
def hd_2 (e : Nat) : Nat → String → Option (Option Int32) := fun pc E => if pc < e then (if E = x_N then some (some 1) else if E = x_I then some (some 2) else none) else none
theorem hd_0_ok {c : Code} {cc : ByteArray} {nL : Nat} {own : String} {args : Array Value} {s : State} (h : c.exceptionTable.toList = tableOf []) (pc : Nat) (E : String) : pm_okH c cc nL own args s pc E (hd_0 pc E) := by
  show ∀ z ∈ c.exceptionTable.toList, _
  rw [h]
  intro z hz
  cases hz
def ckHd (cc : ByteArray) (nL h k len : Nat) (n : Int) : Bool := decide (k < nL) && (((decide (len = 1) && (decide (k < 4) && decide (decode cc h = .ok (.astore_n (Fin.ofNat 4 k), 1)))) || (decide (len = 2) && decide (decode cc h = .ok (.astore k, 2)))) && (decide (decode cc (h + len) = .ok (.iconst n, 1)) && decide (decode cc (h + len + 1) = .ok (.ireturn, 1))))
theorem ckHd_ok {cc : ByteArray} {nL h k len : Nat} {n : Int} (q : ckHd cc nL h k len n = true) : k < nL ∧ ((∃ k' : Fin 4, (k' : Nat) = k ∧ len = 1 ∧ decode cc h = .ok (.astore_n k', 1)) ∨ (len = 2 ∧ decode cc h = .ok (.astore k, 2))) ∧ decode cc (h + len) = .ok (.iconst n, 1) ∧ decode cc (h + len + 1) = .ok (.ireturn, 1) := by
  simp only [ckHd, Bool.and_eq_true, Bool.or_eq_true, decide_eq_true_eq] at q
  obtain ⟨q1, q2, q3, q4⟩ := q
  refine ⟨q1, ?_, q3, q4⟩
  rcases q2 with ⟨a, b, d⟩ | ⟨a, b⟩
  · exact Or.inl ⟨Fin.ofNat 4 k, Nat.mod_eq_of_lt b, a, d⟩
  · exact Or.inr ⟨a, b⟩
theorem hd_1_ok {c : Code} {cc : ByteArray} {nL : Nat} {args : Array Value} {n0 : Nat} {sa sv : Nat → Nat} {s : State} (hG : GG n0 sa sv s) {e h ct k len : Nat} {E1 : String} (ht : c.exceptionTable.toList = tableOf [(0, e, h, ct)]) (hq : ckHd cc nL h k len 1 = true) (hE : (ct = 18 ∧ E1 = x_N) ∨ (ct = 13 ∧ E1 = x_I)) (pc : Nat) (E : String) : pm_okH c cc nL RL args s pc E (hd_1 e E1 pc E) := by
  unfold hd_1
  by_cases hc : pc < e ∧ E = E1
  · rw [if_pos hc]
    obtain ⟨hp, rfl⟩ := hc
    obtain ⟨a1, a2, a3, a4⟩ := ckHd_ok hq
    have hw : ∀ w ∈ HW, w.before args s = true := fun w h => GW_use hG (List.mem_append_right _ (List.mem_append_right _ h)) args
    rcases hE with ⟨rfl, rfl⟩ | ⟨rfl, rfl⟩
    · exact ⟨[], ⟨0, e, h, 18⟩, [], x_N, k, len, 1, ht, (fun z hz => by cases hz), (by simp [covers, hp]), (by simp), hw _ (by simp [HW]), hw _ (by simp [HW]), a1, a2, a3, rfl, a4⟩
    · exact ⟨[], ⟨0, e, h, 13⟩, [], x_I, k, len, 1, ht, (fun z hz => by cases hz), (by simp [covers, hp]), (by simp), hw _ (by simp [HW]), hw _ (by simp [HW]), a1, a2, a3, rfl, a4⟩
  · rw [if_neg hc]
    exact trivial
theorem hd_2_ok {c : Code} {cc : ByteArray} {nL : Nat} {args : Array Value} {n0 : Nat} {sa sv : Nat → Nat} {s : State} (hG : GG n0 sa sv s) {e h h' k len k' len' : Nat} (ht : c.exceptionTable.toList = tableOf [(0, e, h, 18), (0, e, h', 13)]) (hq : ckHd cc nL h k len 1 = true) (hq' : ckHd cc nL h' k' len' 2 = true) (pc : Nat) (E : String) : pm_okH c cc nL RL args s pc E (hd_2 e pc E) := by
  unfold hd_2
  by_cases hc : pc < e
  · rw [if_pos hc]
    have hw : ∀ w ∈ HW, w.before args s = true := fun w h => GW_use hG (List.mem_append_right _ (List.mem_append_right _ h)) args
    by_cases hE : E = x_N
    · rw [if_pos hE]
      subst hE
      obtain ⟨a1, a2, a3, a4⟩ := ckHd_ok hq
      exact ⟨[], ⟨0, e, h, 18⟩, [⟨0, e, h', 13⟩], x_N, k, len, 1, ht, (fun z hz => by cases hz), (by simp [covers, hc]), (by simp), hw _ (by simp [HW]), hw _ (by simp [HW]), a1, a2, a3, rfl, a4⟩
    · rw [if_neg hE]
      by_cases hI : E = x_I
      · rw [if_pos hI]
        subst hI
        obtain ⟨a1, a2, a3, a4⟩ := ckHd_ok hq'
        refine ⟨[⟨0, e, h, 18⟩], ⟨0, e, h', 13⟩, [], x_I, k', len', 2, ht, (fun z hz => ?_), (by simp [covers, hc]), (by simp), hw _ (by simp [HW]), hw _ (by simp [HW]), a1, a2, a3, rfl, a4⟩
        cases List.mem_singleton.mp hz
        exact Or.inr ⟨(by simp), x_N, hw _ (by simp [HW]), hG.2.2.2.2.1⟩
      · rw [if_neg hI]
        exact trivial
  · rw [if_neg hc]
    exact trivial
