/-- a word of the tables, by its place -/
def inL (pos : Nat) (w : Cond) : Bool := decide ((lw_ch (pos / 1000))[pos % 1000]? = some w)
theorem inL_ok {pos : Nat} {w : Cond} (h : inL pos w = true) : w ∈ lw_tbl := lw_ch_in _ _ (List.mem_of_getElem? (of_decide_eq_true h))
/-- what the Statement gives of the start, part by part -/
def lw_gv : List Cond := flatC (Jvm.Cond.and given_1 narrow_1)
def inG (pos : Nat) (w : Cond) : Bool := decide (lw_gv[pos]? = some w)
theorem inG_ok {args : Array Value} {s : State} (h : (Jvm.Cond.and given_1 narrow_1).before args s = true) {pos : Nat} {w : Cond} (hc : inG pos w = true) : w.before args s = true := flat_of_before _ h _ (List.mem_of_getElem? (of_decide_eq_true hc))
/-- each text: where it is told first, where its parts begin -/
def tx_src : List (String × Nat × Nat) := [(RX11, 117, 39), (RX9, 44, 73), (RX4, 29, 86), (RX4, 70, 95), (RX4, 75, 103), (RX4, 80, 113), (RX4, 85, 121), (RX4, 90, 130), (RX4, 95, 138), (RX6, 101, 146), (RX6, 105, 164), (RX6, 107, 172), (RX6, 109, 180), (RX6, 111, 188), (RX6, 95, 196), (RX6, 126, 203), (RX6, 128, 209), (RX4, 104, 216), (RX11, 194, 225), (RX11, 375, 242), (RX11, 222, 260), (RX11, 377, 289), (RX11, 240, 305), (RX11, 379, 332), (RX11, 381, 356), (RX11, 343, 371)]
def tx_at (k : Nat) : String × Nat × Nat := tx_src.getD k ("", 0, 0)
def tx_tm (k : Nat) : Term := .string (tx_at k).1 (tx_at k).2.1
def tx_ck (k : Nat) : Bool := inG (tx_at k).2.2 (.exactly (tx_tm k) "java/lang/String") && (inG ((tx_at k).2.2 + 1) (.eq (.field (tx_tm k) "java/lang/String" "coder" "B") (.int 0)) && (inG ((tx_at k).2.2 + 2) (.arrayOf (.field (tx_tm k) "java/lang/String" "value" "[B") .byte) && (inG ((tx_at k).2.2 + 3) (.eq (.length (.field (tx_tm k) "java/lang/String" "value" "[B")) (.int (Int32.ofNat (tx_len.getD k 0)))) && (List.range (tx_len.getD k 0)).all (fun j => inG ((tx_at k).2.2 + 4 + j) (.eq (.elem (.field (tx_tm k) "java/lang/String" "value" "[B") (.int (Int32.ofNat j))) (.int ((tx_byt.getD k []).getD j 0)))))))
theorem tx_cks : ∀ k, k < 26 → tx_ck k = true := by decide +kernel
theorem tx_short : ∀ k, k < 26 → tx_len.getD k 0 < 2 ^ 31 := by decide +kernel
theorem tx_apart : ∀ i, i < 26 → ∀ j, j < 26 → Int32.ofNat (tx_len.getD i 0) = Int32.ofNat (tx_len.getD j 0) → (∀ k, k < tx_len.getD i 0 → k < tx_len.getD j 0 → (tx_byt.getD i []).getD k 0 = (tx_byt.getD j []).getD k 0) → i = j := by decide +kernel
theorem tx_one {args : Array Value} {s : State} (h : (Jvm.Cond.and given_1 narrow_1).before args s = true) {A : Nat → Prop} (hA : ∀ a : Nat, a < s.heap.size → ¬ A a) {k : Nat} (hk : k < 26) : ∃ q : Nat × Nat, (tx_tm k).eval args s none [] s = some (.ref q.1) ∧ va_O "java/lang/String" q.1 A s s.heap ∧ va_OF "java/lang/String" "coder" "B" (.int 0) q.1 A s s.heap ∧ va_OF "java/lang/String" "value" "[B" (.ref q.2) q.1 A s s.heap ∧ va_T .byte q.2 (tx_len.getD k 0) (fun j => .int ((tx_byt.getD k []).getD j 0)) A s s.heap := by
  have hc := tx_cks k hk
  simp only [tx_ck, Bool.and_eq_true] at hc
  obtain ⟨c1, c2, c3, c4, c5⟩ := hc
  obtain ⟨adK, adV, hS, he⟩ := vk_Sof (args := args) (s := s) (N := 1) (tm := fun _ => tx_tm k) (len := [tx_len.getD k 0]) (byt := [tx_byt.getD k []]) (A := A) (fun i hi => by obtain rfl : i = 0 := (by omega); exact tx_short k hk) (fun i hi => inG_ok h c1) (fun i hi => inG_ok h c2) (fun i hi => inG_ok h c3) (fun i hi => by obtain rfl : i = 0 := (by omega); exact inG_ok h c4) (fun i hi j hj => by obtain rfl : i = 0 := (by omega); exact inG_ok h (List.all_eq_true.mp c5 j (List.mem_range.mpr hj))) (fun i j hi hj hn => by omega) hA
  obtain ⟨q1, q2, q3, q4⟩ := hS.1 0 (by decide)
  exact ⟨(adK 0, adV 0), he 0 (by decide), q1, q2, q3, q4⟩
theorem tx_all {args : Array Value} {s : State} (h : (Jvm.Cond.and given_1 narrow_1).before args s = true) {A : Nat → Prop} (hA : ∀ a : Nat, a < s.heap.size → ¬ A a) : ∃ adK adV : Nat → Nat, vk_S 26 tx_len tx_byt adK adV A s s.heap ∧ ∀ i : Nat, i < 26 → (tx_tm i).eval args s none [] s = some (.ref (adK i)) := by
  have h0 : ∀ i : Nat, ∃ q : Nat × Nat, i < 26 → (tx_tm i).eval args s none [] s = some (.ref q.1) ∧ va_O "java/lang/String" q.1 A s s.heap ∧ va_OF "java/lang/String" "coder" "B" (.int 0) q.1 A s s.heap ∧ va_OF "java/lang/String" "value" "[B" (.ref q.2) q.1 A s s.heap ∧ va_T .byte q.2 (tx_len.getD i 0) (fun j => .int ((tx_byt.getD i []).getD j 0)) A s s.heap := by
    intro i
    by_cases hi : i < 26
    · obtain ⟨q, hq⟩ := tx_one h hA hi
      exact ⟨q, fun _ => hq⟩
    · exact ⟨(0, 0), fun h => absurd h hi⟩
  obtain ⟨ad, had⟩ := Classical.axiomOfChoice h0
  refine ⟨fun i => (ad i).1, fun i => (ad i).2, ⟨fun i hi => (had i hi).2, fun i j hi hj e => ?_⟩, fun i hi => (had i hi).1⟩
  obtain ⟨-, -, -, ⟨cf, k, fi, f, cell, a1, a2, a3, a4, a5, -⟩, ce, b1, -, -, b4, b5, b6, -⟩ := had i hi
  obtain ⟨-, -, -, ⟨cf', k', fi', f', cell', a1', a2', a3', a4', a5', -⟩, ce', b1', -, -, b4', b5', b6', -⟩ := had j hj
  have e1 : (ad i).1 = (ad j).1 := e
  rw [e1] at a3
  cases a1.symm.trans a1'
  cases a3.symm.trans a3'
  have e2 : (ad i).2 = (ad j).2 := by
    have := a5.symm.trans a5'
    injection this with this
    injection this
  rw [e2] at b1
  cases b1.symm.trans b1'
  refine tx_apart i hi j hj (b5.symm.trans b5') (fun q h1 h2 => ?_)
  have := (b6 q h1).symm.trans (b6' q h2)
  injection this with this
  injection this
theorem txt_in : txt.all (fun q => decide (Cond.stringRef q.1 q.2.1 q.2.2.1 ∈ lw_tbl)) = true := by decide +kernel
theorem txt_at : txt.all (fun q => decide (q.2.2.2 < 26) && ((decide ((tx_at q.2.2.2).1 = q.1) && decide ((tx_at q.2.2.2).2.1 = q.2.1)) || inG 163 (.eq (tx_tm q.2.2.2) (.string q.1 q.2.1)))) = true := by decide +kernel
theorem eq_ref2 {args : Array Value} {s : State} {a b : Term} {r : Nat} (h : (Cond.eq a b).before args s = true) (ha : a.eval args s none [] s = some (.ref r)) : b.eval args s none [] s = some (.ref r) := by
  simp only [Cond.before, Cond.holds, Cond.value, ha] at h
  cases hb : b.eval args s none [] s with
  | none => simp [hb] at h
  | some v =>
    rw [hb] at h
    cases v <;> simp_all
/-- the ground holds at the law's entry -/
theorem GG_start {s : State} {b : Nat} (hts : ∀ w ∈ lw_tbl, w.before #[Value.ref b] s = true) (hgv : (Jvm.Cond.and given_1 narrow_1).before #[Value.ref b] s = true) : ∃ sa sv : Nat → Nat, GG s.heap.size sa sv s ∧ sa 1000 = b := by
  have hA : ∀ a : Nat, a < s.heap.size → ¬ (fun q => s.heap.size ≤ q) a := fun a h => Nat.not_le.mpr h
  obtain ⟨adK, adV, hS, he⟩ := tx_all hgv hA
  refine ⟨fun k => if k = 1000 then b else adK k, adV, ⟨fun w hw => ?_, ?_, ?_, fun q hq => ?_, ?_, ?_, ?_, ?_⟩, if_pos rfl⟩
  · have := List.all_eq_true.mp GW_ot w hw
    simp only [Bool.and_eq_true] at this
    exact va_Nw.of this.1 (hts w (GW_in w hw))
  · exact vx_Zqof (hts _ (inL_ok (pos := 3157) (by decide +kernel))) (hts _ (inL_ok (pos := 1016) (by decide +kernel))) (inG_ok hgv (pos := 4) (by decide +kernel)) hA
  · exact vx_Zqof (hts _ (inL_ok (pos := 3159) (by decide +kernel))) (hts _ (inL_ok (pos := 1016) (by decide +kernel))) (inG_ok hgv (pos := 5) (by decide +kernel)) hA
  · have h1 := List.all_eq_true.mp txt_in q hq
    have h2 := List.all_eq_true.mp txt_at q hq
    simp only [Bool.and_eq_true, Bool.or_eq_true, decide_eq_true_eq] at h1 h2
    obtain ⟨h3, h4⟩ := h2
    have e0 : (if q.2.2.2 = 1000 then b else adK q.2.2.2) = adK q.2.2.2 := if_neg (by omega)
    show vk_R q.1 q.2.1 q.2.2.1 (if q.2.2.2 = 1000 then b else adK q.2.2.2) s
    rw [e0]
    refine vk_R.of (hts _ h1) ?_
    have h5 := he _ h3
    rcases h4 with ⟨g1, g2⟩ | g
    · unfold tx_tm at h5
      rw [g1, g2] at h5
      exact h5
    · exact eq_ref2 (inG_ok hgv g) h5
  · exact va_Nc.of (inG_ok hgv (pos := 38) (by decide +kernel))
  · have key : ∀ i, i < 26 → (if i = 1000 then b else adK i) = adK i := fun i hi => if_neg (by omega)
    refine ⟨fun i hi => ?_, fun i j hi hj e => ?_⟩
    · show va_O _ (if i = 1000 then b else adK i) _ _ _ ∧ va_OF _ _ _ _ (if i = 1000 then b else adK i) _ _ _ ∧ va_OF _ _ _ _ (if i = 1000 then b else adK i) _ _ _ ∧ _
      rw [key i hi]
      exact hS.1 i hi
    · have e' : (if i = 1000 then b else adK i) = (if j = 1000 then b else adK j) := e
      rw [key i hi, key j hj] at e'
      exact hS.2 i j hi hj e'
  · exact va_Zof (hts _ (inL_ok (pos := 3234) (by decide +kernel))) (hts _ (inL_ok (pos := 1020) (by decide +kernel))) (va_eqt (inG_ok hgv (pos := 6) (by decide +kernel))) hA
  · exact va_Zqof (hts _ (inL_ok (pos := 4033) (by decide +kernel))) (hts _ (inL_ok (pos := 1024) (by decide +kernel))) (inG_ok hgv (pos := 7) (by decide +kernel)) hA
theorem inst_all : ∀ (ci : Nat) (q : vw_C), vwCl[ci]? = some q → Cond.instantiable q.1 q.2.2 ∈ lw_tbl := by
  intro ci q h
  match ci, h with
  | 0, h => cases h; exact inL_ok (pos := 2020) (by decide +kernel)
  | 1, h => cases h; exact inL_ok (pos := 2100) (by decide +kernel)
  | 2, h => cases h; exact inL_ok (pos := 2050) (by decide +kernel)
  | 3, h => cases h; exact inL_ok (pos := 1112) (by decide +kernel)
  | 4, h => cases h; exact inL_ok (pos := 1073) (by decide +kernel)
  | 5, h => cases h; exact inL_ok (pos := 1118) (by decide +kernel)
  | 6, h => cases h; exact inL_ok (pos := 1079) (by decide +kernel)
  | 7, h => cases h; exact inL_ok (pos := 2075) (by decide +kernel)
  | 8, h => cases h; exact inL_ok (pos := 1211) (by decide +kernel)
  | 9, h => cases h; exact inL_ok (pos := 1038) (by decide +kernel)
  | 10, h => cases h; exact inL_ok (pos := 2060) (by decide +kernel)
  | 11, h => cases h; exact inL_ok (pos := 1030) (by decide +kernel)
  | 12, h => cases h; exact inL_ok (pos := 6133) (by decide +kernel)
  | k + 13, h => simp [vwCl] at h
theorem arr_start {s : State} {args : Array Value} {ty : FieldType} (h : (Cond.arrayClass ty).before args s = true) : ∃ c : ClassId, ArrOfT s c ty ∧ s.vm.findClass ("[" ++ ty.toString) = some c := by
  obtain ⟨c, k, comp, h1, h2, h3⟩ := Cond.arrayClass_spec h
  exact ⟨c, fun n z => ⟨(fun k h => by cases h), k, h2, comp, h3⟩, h1⟩
def w_0 : Cond := Cond.classLink RL 13 x_I
theorem w_0in : w_0 ∈ lw_tbl := of_decide_eq_true (List.all_eq_true.mp GW_6 w_0 (by simp [HW, w_0]))
theorem Ts_start {s : State} {args : Array Value} (hts : ∀ w ∈ lw_tbl, w.before args s = true) : ∀ w ∈ w_0 :: TW, w.before args s = true := by
  intro w h
  rcases List.mem_cons.mp h with rfl | h
  · exact hts _ w_0in
  · exact hts _ (List.mem_filter.mp h).1
theorem K_start {s : State} {args : Array Value} (hts : ∀ w ∈ lw_tbl, w.before args s = true) : ∃ (D : va_G) (ck : Nat → ClassId), va_K D vwCl (pm_tys ck) s := by
  obtain ⟨c0, a0, b0⟩ := arr_start (hts (.arrayClass .int) (inL_ok (pos := 1103) (by decide +kernel)))
  obtain ⟨c1, a1, b1⟩ := arr_start (hts (.arrayClass .long) (inL_ok (pos := 2123) (by decide +kernel)))
  obtain ⟨c2, a2, b2⟩ := arr_start (hts (.arrayClass .char) (inL_ok (pos := 1071) (by decide +kernel)))
  obtain ⟨c3, a3, b3⟩ := arr_start (hts (.arrayClass .boolean) (inL_ok (pos := 7112) (by decide +kernel)))
  have h0 : ∀ ci : Nat, ∃ d : ClassId × (Nat → Nat), ∀ q : vw_C, vwCl[ci]? = some q → u_Kn s q.1 q.2.1 q.2.2 d.1 d.2 := by
    intro ci
    cases hc : vwCl[ci]? with
    | none => exact ⟨(c0, fun _ => 0), fun q h => by cases h⟩
    | some q =>
      obtain ⟨C', T, N⟩ := q
      obtain ⟨cC, iS, hk⟩ := u_known (Ts_start hts) (cl_all w_0 _ _ _ _ hc).1 (hts _ (inst_all _ _ hc))
      exact ⟨(cC, iS), fun q h => by cases h; exact hk⟩
  obtain ⟨dd, hdd⟩ := Classical.axiomOfChoice h0
  refine ⟨(fun c => (dd c).1, fun c => (dd c).2), fun k => match k with | 0 => c0 | 1 => c1 | 2 => c2 | _ => c3, fun c q hq => hdd c q hq, fun k q hk => ?_⟩
  match k, hk with
  | 0, hk => cases hk; exact ⟨a0, b0⟩
  | 1, hk => cases hk; exact ⟨a1, b1⟩
  | 2, hk => cases hk; exact ⟨a2, b2⟩
  | 3, hk => cases hk; exact ⟨a3, b3⟩
  | k + 4, hk => simp [pm_tys] at hk
