/-- a cell's shape: an object (class, fields: an int, a long, a cell) or an array (kind, length) -/
abbrev pSh : Type := (Nat × List (Option (Option Nat))) ⊕ (Nat × Nat)
abbrev pI : Type := Nat → Nat → Int32
abbrev pJ : Type := Nat → Nat → Int64
def fvv (I : Nat → Int32) (J : Nat → Int64) (k : Nat) (t : Option (Option Nat)) : Value := match t with
  | none => .int (I k)
  | some none => .long (J k)
  | some (some b) => .ref b
def fvl (I : Nat → Int32) (J : Nat → Int64) : Nat → List (Option (Option Nat)) → List Value
  | _, [] => []
  | k, t :: r => fvv I J k t :: fvl I J (k + 1) r
def pm_st (N : Nat) (sh : Nat → pSh) (I : pI) (J : pJ) : pS := (N, fun a => match sh a with
  | .inl (ci, fs) => .inr (ci, fvl (I a) (J a) 0 fs)
  | .inr (kd, n) => if kd = 1 then .inl (1, n, .inr (J a)) else .inl (kd, n, .inl (I a)))
def upI (I : pI) (a i : Nat) (v : Int32) : pI := fun b => if b = a then upd (I a) i v else I b
def upJ (J : pJ) (a i : Nat) (v : Int64) : pJ := fun b => if b = a then vp_updL (J a) i v else J b
theorem fvl_get (I : Nat → Int32) (J : Nat → Int64) : ∀ (fs : List (Option (Option Nat))) (k i : Nat), (fvl I J k fs)[i]? = (fs[i]?).map (fvv I J (k + i))
  | [], k, i => by simp [fvl]
  | t :: r, k, 0 => rfl
  | t :: r, k, i + 1 => by
    show (fvl I J (k + 1) r)[i]? = (r[i]?).map _
    rw [fvl_get I J r (k + 1) i, show k + 1 + i = k + (i + 1) by omega]
theorem fvl_len (I : Nat → Int32) (J : Nat → Int64) : ∀ (fs : List (Option (Option Nat))) (k : Nat), (fvl I J k fs).length = fs.length
  | [], _ => rfl
  | _ :: r, k => by show (fvl I J (k + 1) r).length + 1 = r.length + 1; rw [fvl_len I J r (k + 1)]
theorem fvl_setI {I : Nat → Int32} {J : Nat → Int64} {fs : List (Option (Option Nat))} {i : Nat} {v : Int32} (h : fs[i]? = some none) : (fvl I J 0 fs).set i (.int v) = fvl (upd I i v) J 0 fs := by
  apply List.ext_getElem?
  intro j
  rw [fvl_get]
  by_cases hj : i = j
  · subst hj
    rw [List.getElem?_set_self (by rw [fvl_len]; exact (List.getElem?_eq_some_iff.mp h).1), h]
    simp [fvv, upd]
  · rw [List.getElem?_set_ne hj, fvl_get]
    cases fs[j]? with
    | none => rfl
    | some t => cases t with
      | none => simp [fvv, upd, Ne.symm hj]
      | some t => cases t <;> rfl
theorem fvl_setJ {I : Nat → Int32} {J : Nat → Int64} {fs : List (Option (Option Nat))} {i : Nat} {v : Int64} (h : fs[i]? = some (some none)) : (fvl I J 0 fs).set i (.long v) = fvl I (vp_updL J i v) 0 fs := by
  apply List.ext_getElem?
  intro j
  rw [fvl_get]
  by_cases hj : i = j
  · subst hj
    rw [List.getElem?_set_self (by rw [fvl_len]; exact (List.getElem?_eq_some_iff.mp h).1), h]
    simp [fvv, vp_updL]
  · rw [List.getElem?_set_ne hj, fvl_get]
    cases fs[j]? with
    | none => rfl
    | some t => cases t with
      | none => rfl
      | some t => cases t with
        | none => simp [fvv, vp_updL, Ne.symm hj]
        | some b => rfl
theorem st_o {N : Nat} {sh : Nat → pSh} {I : pI} {J : pJ} {a ci : Nat} {fs : List (Option (Option Nat))} (h : sh a = .inl (ci, fs)) : (pm_st N sh I J).2 a = .inr (ci, fvl (I a) (J a) 0 fs) := by
  show (match sh a with | .inl (ci, fs) => _ | .inr (kd, n) => _) = _
  rw [h]
theorem st_a {N : Nat} {sh : Nat → pSh} {I : pI} {J : pJ} {a kd n : Nat} (h : sh a = .inr (kd, n)) (hk : kd ≠ 1) : (pm_st N sh I J).2 a = .inl (kd, n, .inl (I a)) := by
  show (match sh a with | .inl (ci, fs) => _ | .inr (kd, n) => _) = _
  rw [h]
  exact if_neg hk
theorem st_l {N : Nat} {sh : Nat → pSh} {I : pI} {J : pJ} {a n : Nat} (h : sh a = .inr (1, n)) : (pm_st N sh I J).2 a = .inl (1, n, .inr (J a)) := by
  show (match sh a with | .inl (ci, fs) => _ | .inr (kd, n) => _) = _
  rw [h]
  exact if_pos rfl
theorem st_up {N : Nat} {sh : Nat → pSh} {I I' : pI} {J J' : pJ} {a : Nat} {e : pE} (h1 : (pm_st N sh I' J').2 a = e) (h2 : ∀ b, b ≠ a → I' b = I b) (h3 : ∀ b, b ≠ a → J' b = J b) : pm_up (pm_st N sh I J) a e = pm_st N sh I' J' := by
  refine Prod.ext rfl ?_
  funext b
  show va_up (pm_st N sh I J).2 a e b = _
  by_cases hb : b = a
  · subst hb
    rw [h1]
    simp [va_up]
  · have : va_up (pm_st N sh I J).2 a e b = (pm_st N sh I J).2 b := by simp [va_up, hb]
    rw [this]
    unfold pm_st
    dsimp only
    rw [h2 b hb, h3 b hb]
theorem upI_ne {I : pI} {a i : Nat} {v : Int32} : ∀ b, b ≠ a → upI I a i v b = I b := fun b h => if_neg h
theorem upJ_ne {J : pJ} {a i : Nat} {v : Int64} : ∀ b, b ≠ a → upJ J a i v b = J b := fun b h => if_neg h
theorem upI_at {I : pI} {a i : Nat} {v : Int32} : upI I a i v a = upd (I a) i v := if_pos rfl
theorem upJ_at {J : pJ} {a i : Nat} {v : Int64} : upJ J a i v a = vp_updL (J a) i v := if_pos rfl
section GT
variable {C : pC} {d : Nat} {call : pCall} {cost : Nat → Nat × Nat × Bool × Bool} {ak : Bool × Bool} {nxe mc ms : Nat} {Q : pQ} {pc tg pc' : Nat} {ls : pL} {st : List Value} {uc us : Nat} {N : Nat} {sh : Nat → pSh} {I : pI} {J : pJ}
theorem t_getI {i a ci kf : Nat} {fs : List (Option (Option Nat))} (hc : ∀ j as S (Q Q' : pQ), (∀ o S, Q o S → Q' o S) → call j as S Q → call j as S Q') (hpc : pc_in C pc = some (.getfield i, tg)) (hf : pc_fl C i = some (ci, kf)) (ha : a < N) (hs : sh a = .inl (ci, fs)) (hk : fs[kf]? = some none) (hp : pc + 3 = pc') (k : pm_ev C d call cost ak nxe mc ms Q pc' ls (.int (I a kf) :: st) uc us (pm_st N sh I J)) : pm_ev C d call cost ak nxe mc ms Q pc ls (.ref a :: st) uc us (pm_st N sh I J) :=
  g_getfield hc hpc hf ha (st_o hs) (by rw [fvl_get, hk]; simp [fvv]) hp k
theorem t_getJ {i a ci kf : Nat} {fs : List (Option (Option Nat))} (hc : ∀ j as S (Q Q' : pQ), (∀ o S, Q o S → Q' o S) → call j as S Q → call j as S Q') (hpc : pc_in C pc = some (.getfield i, tg)) (hf : pc_fl C i = some (ci, kf)) (ha : a < N) (hs : sh a = .inl (ci, fs)) (hk : fs[kf]? = some (some none)) (hp : pc + 3 = pc') (k : pm_ev C d call cost ak nxe mc ms Q pc' ls (.long (J a kf) :: st) uc us (pm_st N sh I J)) : pm_ev C d call cost ak nxe mc ms Q pc ls (.ref a :: st) uc us (pm_st N sh I J) :=
  g_getfield hc hpc hf ha (st_o hs) (by rw [fvl_get, hk]; simp [fvv]) hp k
theorem t_getR {i a ci kf : Nat} {fs : List (Option (Option Nat))} {b : Nat} (hc : ∀ j as S (Q Q' : pQ), (∀ o S, Q o S → Q' o S) → call j as S Q → call j as S Q') (hpc : pc_in C pc = some (.getfield i, tg)) (hf : pc_fl C i = some (ci, kf)) (ha : a < N) (hs : sh a = .inl (ci, fs)) (hk : fs[kf]? = some (some (some b))) (hp : pc + 3 = pc') (k : pm_ev C d call cost ak nxe mc ms Q pc' ls (.ref b :: st) uc us (pm_st N sh I J)) : pm_ev C d call cost ak nxe mc ms Q pc ls (.ref a :: st) uc us (pm_st N sh I J) :=
  g_getfield hc hpc hf ha (st_o hs) (by rw [fvl_get, hk]; simp [fvv]) hp k
theorem t_putI {i a ci kf : Nat} {fs : List (Option (Option Nat))} {v : Int32} {ty : FieldType} {fin : Bool} (hc : ∀ j as S (Q Q' : pQ), (∀ o S, Q o S → Q' o S) → call j as S Q → call j as S Q') (hpc : pc_in C pc = some (.putfield i, tg)) (hf : pc_fl C i = some (ci, kf)) (ha : a < N) (hs : sh a = .inl (ci, fs)) (hk : fs[kf]? = some none) (ht : pm_ft ci kf = some (ty, fin)) (hfit : pm_fit ty (.int v) = true) (hfin : fin = true → pc_ini C = true) (hp : pc + 3 = pc') (k : pm_ev C d call cost ak nxe mc ms Q pc' ls (st) uc us (pm_st N sh (upI I a kf v) J)) : pm_ev C d call cost ak nxe mc ms Q pc ls (.int v :: .ref a :: st) uc us (pm_st N sh I J) :=
  g_putfield hc hpc hf ha (st_o hs) (by rw [fvl_len]; exact (List.getElem?_eq_some_iff.mp hk).1) ht hfit hfin hp (by rw [fvl_setI hk, st_up (I' := upI I a kf v) (J' := J) (by rw [st_o hs, upI_at]) upI_ne (fun _ _ => rfl)]; exact k)
theorem t_putJ {i a ci kf : Nat} {fs : List (Option (Option Nat))} {v : Int64} {fin : Bool} (hc : ∀ j as S (Q Q' : pQ), (∀ o S, Q o S → Q' o S) → call j as S Q → call j as S Q') (hpc : pc_in C pc = some (.putfield i, tg)) (hf : pc_fl C i = some (ci, kf)) (ha : a < N) (hs : sh a = .inl (ci, fs)) (hk : fs[kf]? = some (some none)) (ht : pm_ft ci kf = some (.long, fin)) (hfin : fin = true → pc_ini C = true) (hp : pc + 3 = pc') (k : pm_ev C d call cost ak nxe mc ms Q pc' ls (st) uc us (pm_st N sh I (upJ J a kf v))) : pm_ev C d call cost ak nxe mc ms Q pc ls (.long v :: .ref a :: st) uc us (pm_st N sh I J) :=
  g_putfield hc hpc hf ha (st_o hs) (by rw [fvl_len]; exact (List.getElem?_eq_some_iff.mp hk).1) ht rfl hfin hp (by rw [fvl_setJ hk, st_up (I' := I) (J' := upJ J a kf v) (by rw [st_o hs, upJ_at]) (fun _ _ => rfl) upJ_ne]; exact k)
theorem t_iaload {a n : Nat} {i : Int32} (hc : ∀ j as S (Q Q' : pQ), (∀ o S, Q o S → Q' o S) → call j as S Q → call j as S Q') (hpc : pc_in C pc = some (.iaload, tg)) (ha : a < N) (hs : sh a = .inr (0, n)) (hi : ¬ (i < 0 ∨ n ≤ i.toNatClampNeg)) (hp : pc + 1 = pc') (k : pm_ev C d call cost ak nxe mc ms Q pc' ls (.int (I a i.toNatClampNeg) :: st) uc us (pm_st N sh I J)) : pm_ev C d call cost ak nxe mc ms Q pc ls (.int i :: .ref a :: st) uc us (pm_st N sh I J) :=
  g_iaload hc hpc ha (st_a hs (by decide)) hi hp k
theorem t_caload {a n : Nat} {i : Int32} (hc : ∀ j as S (Q Q' : pQ), (∀ o S, Q o S → Q' o S) → call j as S Q → call j as S Q') (hpc : pc_in C pc = some (.caload, tg)) (ha : a < N) (hs : sh a = .inr (2, n)) (hi : ¬ (i < 0 ∨ n ≤ i.toNatClampNeg)) (hp : pc + 1 = pc') (k : pm_ev C d call cost ak nxe mc ms Q pc' ls (.int (I a i.toNatClampNeg) :: st) uc us (pm_st N sh I J)) : pm_ev C d call cost ak nxe mc ms Q pc ls (.int i :: .ref a :: st) uc us (pm_st N sh I J) :=
  g_caload hc hpc ha (st_a hs (by decide)) hi hp k
theorem t_baload {a n : Nat} {i : Int32} (hc : ∀ j as S (Q Q' : pQ), (∀ o S, Q o S → Q' o S) → call j as S Q → call j as S Q') (hpc : pc_in C pc = some (.baload, tg)) (ha : a < N) (hs : sh a = .inr (3, n)) (hi : ¬ (i < 0 ∨ n ≤ i.toNatClampNeg)) (hp : pc + 1 = pc') (k : pm_ev C d call cost ak nxe mc ms Q pc' ls (.int (I a i.toNatClampNeg) :: st) uc us (pm_st N sh I J)) : pm_ev C d call cost ak nxe mc ms Q pc ls (.int i :: .ref a :: st) uc us (pm_st N sh I J) :=
  g_baload hc hpc ha (st_a hs (by decide)) hi hp k
theorem t_laload {a n : Nat} {i : Int32} (hc : ∀ j as S (Q Q' : pQ), (∀ o S, Q o S → Q' o S) → call j as S Q → call j as S Q') (hpc : pc_in C pc = some (.laload, tg)) (ha : a < N) (hs : sh a = .inr (1, n)) (hi : ¬ (i < 0 ∨ n ≤ i.toNatClampNeg)) (hp : pc + 1 = pc') (k : pm_ev C d call cost ak nxe mc ms Q pc' ls (.long (J a i.toNatClampNeg) :: st) uc us (pm_st N sh I J)) : pm_ev C d call cost ak nxe mc ms Q pc ls (.int i :: .ref a :: st) uc us (pm_st N sh I J) :=
  g_laload hc hpc ha (st_l hs) hi hp k
theorem t_iastore {a n : Nat} {i x : Int32} (hc : ∀ j as S (Q Q' : pQ), (∀ o S, Q o S → Q' o S) → call j as S Q → call j as S Q') (hpc : pc_in C pc = some (.iastore, tg)) (ha : a < N) (hs : sh a = .inr (0, n)) (hi : ¬ (i < 0 ∨ n ≤ i.toNatClampNeg)) (hp : pc + 1 = pc') (k : pm_ev C d call cost ak nxe mc ms Q pc' ls (st) uc us (pm_st N sh (upI I a i.toNatClampNeg x) J)) : pm_ev C d call cost ak nxe mc ms Q pc ls (.int x :: .int i :: .ref a :: st) uc us (pm_st N sh I J) :=
  g_iastore hc hpc ha (st_a hs (by decide)) hi hp (by rw [st_up (I' := upI I a i.toNatClampNeg x) (J' := J) (by rw [st_a hs (by decide), upI_at]) upI_ne (fun _ _ => rfl)]; exact k)
theorem t_castore {a n : Nat} {i x : Int32} (hc : ∀ j as S (Q Q' : pQ), (∀ o S, Q o S → Q' o S) → call j as S Q → call j as S Q') (hpc : pc_in C pc = some (.castore, tg)) (ha : a < N) (hs : sh a = .inr (2, n)) (hi : ¬ (i < 0 ∨ n ≤ i.toNatClampNeg)) (hp : pc + 1 = pc') (k : pm_ev C d call cost ak nxe mc ms Q pc' ls (st) uc us (pm_st N sh (upI I a i.toNatClampNeg (vp_nar .char x)) J)) : pm_ev C d call cost ak nxe mc ms Q pc ls (.int x :: .int i :: .ref a :: st) uc us (pm_st N sh I J) :=
  g_castore hc hpc ha (st_a hs (by decide)) hi hp (by rw [st_up (I' := upI I a i.toNatClampNeg (vp_nar .char x)) (J' := J) (by rw [st_a hs (by decide), upI_at]) upI_ne (fun _ _ => rfl)]; exact k)
theorem t_bastore {a n : Nat} {i x : Int32} (hc : ∀ j as S (Q Q' : pQ), (∀ o S, Q o S → Q' o S) → call j as S Q → call j as S Q') (hpc : pc_in C pc = some (.bastore, tg)) (ha : a < N) (hs : sh a = .inr (3, n)) (hi : ¬ (i < 0 ∨ n ≤ i.toNatClampNeg)) (hp : pc + 1 = pc') (k : pm_ev C d call cost ak nxe mc ms Q pc' ls (st) uc us (pm_st N sh (upI I a i.toNatClampNeg (vp_nar .boolean x)) J)) : pm_ev C d call cost ak nxe mc ms Q pc ls (.int x :: .int i :: .ref a :: st) uc us (pm_st N sh I J) :=
  g_bastore hc hpc ha (st_a hs (by decide)) hi hp (by rw [st_up (I' := upI I a i.toNatClampNeg (vp_nar .boolean x)) (J' := J) (by rw [st_a hs (by decide), upI_at]) upI_ne (fun _ _ => rfl)]; exact k)
theorem t_lastore {a n : Nat} {i : Int32} {x : Int64} (hc : ∀ j as S (Q Q' : pQ), (∀ o S, Q o S → Q' o S) → call j as S Q → call j as S Q') (hpc : pc_in C pc = some (.lastore, tg)) (ha : a < N) (hs : sh a = .inr (1, n)) (hi : ¬ (i < 0 ∨ n ≤ i.toNatClampNeg)) (hp : pc + 1 = pc') (k : pm_ev C d call cost ak nxe mc ms Q pc' ls (st) uc us (pm_st N sh I (upJ J a i.toNatClampNeg x))) : pm_ev C d call cost ak nxe mc ms Q pc ls (.long x :: .int i :: .ref a :: st) uc us (pm_st N sh I J) :=
  g_lastore hc hpc ha (st_l hs) hi hp (by rw [st_up (I' := I) (J' := upJ J a i.toNatClampNeg x) (by rw [st_l hs, upJ_at]) (fun _ _ => rfl) upJ_ne]; exact k)
end GT
def shl_0 (p q : Nat) : List pSh := [.inl (11, [some (some 1), some (some 3), none, some (some 6), some (some p), some (some q), some (some 31), some (some 36), none, some (some 41), some (some 46), some (some 51), some (some 53), some (some 58), some (some 61), some (some 65), some (some 72), some (some 73), some (some 74), none]), .inl (9, [some (some 2), none, none, none, none, none, none]), .inr (2, 700), .inl (4, [some (some 4), none]), .inl (6, [some (some 5), none, none, none, none, none]), .inr (0, 128), .inr (0, 3), .inl (3, [none, none, some none, none, some (some 8), some (some 9), some (some 10), none, some (some 11), none, some (some 12), none, none, some (some 13), some (some 16)]), .inr (0, 8), .inr (0, 8), .inr (0, 64), .inr (0, 8), .inr (0, 8), .inl (5, [some (some 14), some (some 15), none]), .inr (0, 48), .inr (0, 700), .inl (5, [some (some 17), some (some 18), none]), .inr (0, 48), .inr (0, 700), .inl (3, [none, none, some none, none, some (some 20), some (some 21), some (some 22), none, some (some 23), none, some (some 24), none, none, some (some 25), some (some 28)]), .inr (0, 8), .inr (0, 8), .inr (0, 64), .inr (0, 8), .inr (0, 8), .inl (5, [some (some 26), some (some 27), none]), .inr (0, 48)]
def shl_1 (p q : Nat) : List pSh := [.inr (0, 700), .inl (5, [some (some 29), some (some 30), none]), .inr (0, 48), .inr (0, 700), .inl (8, [none, none, some none, none, some (some 32), some (some 33), some (some 34), some (some 35)]), .inr (0, 8), .inr (0, 8), .inr (0, 8), .inr (0, 8), .inl (0, [some (some 37), none, none, none, some (some 38), some (some 39), some (some 40)]), .inr (0, 1120), .inr (0, 8), .inr (0, 8), .inr (0, 8), .inl (8, [none, none, some none, none, some (some 42), some (some 43), some (some 44), some (some 45)]), .inr (0, 8), .inr (0, 8), .inr (0, 8), .inr (0, 8), .inl (0, [some (some 47), none, none, none, some (some 48), some (some 49), some (some 50)]), .inr (0, 1120), .inr (0, 8), .inr (0, 8), .inr (0, 8), .inl (2, [some (some 52)]), .inr (0, 6), .inl (8, [none, none, some none, none, some (some 54), some (some 55), some (some 56), some (some 57)])]
def shl_2 (p q : Nat) : List pSh := [.inr (0, 8), .inr (0, 8), .inr (0, 8), .inr (0, 8), .inl (10, [some (some 59), some (some 60)]), .inr (0, 36), .inr (0, 36), .inl (7, [some (some 62), some (some 63), some (some 64), none, none]), .inr (0, 64), .inr (0, 2304), .inr (0, 8), .inl (1, [some (some 66), some (some 71), none, none]), .inl (8, [none, none, some none, none, some (some 67), some (some 68), some (some 69), some (some 70)]), .inr (0, 8), .inr (0, 8), .inr (0, 8), .inr (0, 8), .inr (1, 8), .inr (0, 36), .inr (0, 8), .inr (0, 8), .inl (12, [none, none, none, none, none, none, none, none, none, some (some 76), some (some 77), some (some 78), some (some 79), some (some 80), some (some 81), none, none, none, some (some 82), none, none, none, none, none, none, none, some none, none, none, none, none, none, none, none, none, none, none, none, none, none, some (some 83), some (some 84), some (some 85), some (some 86), some (some 87), some (some 88), some (some 89), some (some 90), some (some 91), some (some 92), none, some (some 93), some (some 94), none, some (some 95), some (some 96), some (some 97), some (some 98), some (some 99), some (some 100), none, some (some 101), some (some 102), some (some 103), none, none, none, none, some (some 104), some (some 105), some (some 106)]), .inr (0, 8), .inr (0, 64), .inr (0, 8), .inr (0, 8), .inr (0, 1400)]
def shl_3 (p q : Nat) : List pSh := [.inr (0, 700), .inr (0, 3), .inr (0, 8), .inr (0, 64), .inr (0, 8), .inr (0, 8), .inr (0, 70), .inr (0, 1400), .inr (0, 950), .inr (3, 9), .inr (0, 140), .inr (0, 2800), .inr (0, 6), .inr (0, 950), .inr (0, 36), .inr (0, 36), .inr (0, 36), .inr (0, 8), .inr (0, 64), .inr (0, 2304), .inr (0, 24), .inr (0, 8), .inr (0, 512), .inr (0, 70), .inr (0, 2800), .inr (0, 24), .inr (1, 1)]
/-- the cells of a run: TownTable from 0 on, TownTableModel from 75 on, the long[1] at 107; p, q: the cells of plan and spare (7 and 19, or 19 and 7) -/
def shp (p q a : Nat) : pSh := cond (Nat.blt a 27) ((shl_0 p q).getD a (.inr (0, 0))) (cond (Nat.blt a 54) ((shl_1 p q).getD (a - 27) (.inr (0, 0))) (cond (Nat.blt a 81) ((shl_2 p q).getD (a - 54) (.inr (0, 0))) ((shl_3 p q).getD (a - 81) (.inr (0, 0)))))
theorem sh_0 {p q : Nat} : shp p q 0 = .inl (11, [some (some 1), some (some 3), none, some (some 6), some (some p), some (some q), some (some 31), some (some 36), none, some (some 41), some (some 46), some (some 51), some (some 53), some (some 58), some (some 61), some (some 65), some (some 72), some (some 73), some (some 74), none]) := rfl
theorem sh_1 {p q : Nat} : shp p q 1 = .inl (9, [some (some 2), none, none, none, none, none, none]) := rfl
theorem sh_2 {p q : Nat} : shp p q 2 = .inr (2, 700) := rfl
theorem sh_3 {p q : Nat} : shp p q 3 = .inl (4, [some (some 4), none]) := rfl
theorem sh_4 {p q : Nat} : shp p q 4 = .inl (6, [some (some 5), none, none, none, none, none]) := rfl
theorem sh_5 {p q : Nat} : shp p q 5 = .inr (0, 128) := rfl
theorem sh_6 {p q : Nat} : shp p q 6 = .inr (0, 3) := rfl
theorem sh_7 {p q : Nat} : shp p q 7 = .inl (3, [none, none, some none, none, some (some 8), some (some 9), some (some 10), none, some (some 11), none, some (some 12), none, none, some (some 13), some (some 16)]) := rfl
theorem sh_8 {p q : Nat} : shp p q 8 = .inr (0, 8) := rfl
theorem sh_9 {p q : Nat} : shp p q 9 = .inr (0, 8) := rfl
theorem sh_10 {p q : Nat} : shp p q 10 = .inr (0, 64) := rfl
theorem sh_11 {p q : Nat} : shp p q 11 = .inr (0, 8) := rfl
theorem sh_12 {p q : Nat} : shp p q 12 = .inr (0, 8) := rfl
theorem sh_13 {p q : Nat} : shp p q 13 = .inl (5, [some (some 14), some (some 15), none]) := rfl
theorem sh_14 {p q : Nat} : shp p q 14 = .inr (0, 48) := rfl
theorem sh_15 {p q : Nat} : shp p q 15 = .inr (0, 700) := rfl
theorem sh_16 {p q : Nat} : shp p q 16 = .inl (5, [some (some 17), some (some 18), none]) := rfl
theorem sh_17 {p q : Nat} : shp p q 17 = .inr (0, 48) := rfl
theorem sh_18 {p q : Nat} : shp p q 18 = .inr (0, 700) := rfl
theorem sh_19 {p q : Nat} : shp p q 19 = .inl (3, [none, none, some none, none, some (some 20), some (some 21), some (some 22), none, some (some 23), none, some (some 24), none, none, some (some 25), some (some 28)]) := rfl
theorem sh_20 {p q : Nat} : shp p q 20 = .inr (0, 8) := rfl
theorem sh_21 {p q : Nat} : shp p q 21 = .inr (0, 8) := rfl
theorem sh_22 {p q : Nat} : shp p q 22 = .inr (0, 64) := rfl
theorem sh_23 {p q : Nat} : shp p q 23 = .inr (0, 8) := rfl
theorem sh_24 {p q : Nat} : shp p q 24 = .inr (0, 8) := rfl
theorem sh_25 {p q : Nat} : shp p q 25 = .inl (5, [some (some 26), some (some 27), none]) := rfl
theorem sh_26 {p q : Nat} : shp p q 26 = .inr (0, 48) := rfl
theorem sh_27 {p q : Nat} : shp p q 27 = .inr (0, 700) := rfl
theorem sh_28 {p q : Nat} : shp p q 28 = .inl (5, [some (some 29), some (some 30), none]) := rfl
theorem sh_29 {p q : Nat} : shp p q 29 = .inr (0, 48) := rfl
theorem sh_30 {p q : Nat} : shp p q 30 = .inr (0, 700) := rfl
theorem sh_31 {p q : Nat} : shp p q 31 = .inl (8, [none, none, some none, none, some (some 32), some (some 33), some (some 34), some (some 35)]) := rfl
theorem sh_32 {p q : Nat} : shp p q 32 = .inr (0, 8) := rfl
theorem sh_33 {p q : Nat} : shp p q 33 = .inr (0, 8) := rfl
theorem sh_34 {p q : Nat} : shp p q 34 = .inr (0, 8) := rfl
theorem sh_35 {p q : Nat} : shp p q 35 = .inr (0, 8) := rfl
theorem sh_36 {p q : Nat} : shp p q 36 = .inl (0, [some (some 37), none, none, none, some (some 38), some (some 39), some (some 40)]) := rfl
theorem sh_37 {p q : Nat} : shp p q 37 = .inr (0, 1120) := rfl
theorem sh_38 {p q : Nat} : shp p q 38 = .inr (0, 8) := rfl
theorem sh_39 {p q : Nat} : shp p q 39 = .inr (0, 8) := rfl
theorem sh_40 {p q : Nat} : shp p q 40 = .inr (0, 8) := rfl
theorem sh_41 {p q : Nat} : shp p q 41 = .inl (8, [none, none, some none, none, some (some 42), some (some 43), some (some 44), some (some 45)]) := rfl
theorem sh_42 {p q : Nat} : shp p q 42 = .inr (0, 8) := rfl
theorem sh_43 {p q : Nat} : shp p q 43 = .inr (0, 8) := rfl
theorem sh_44 {p q : Nat} : shp p q 44 = .inr (0, 8) := rfl
theorem sh_45 {p q : Nat} : shp p q 45 = .inr (0, 8) := rfl
theorem sh_46 {p q : Nat} : shp p q 46 = .inl (0, [some (some 47), none, none, none, some (some 48), some (some 49), some (some 50)]) := rfl
theorem sh_47 {p q : Nat} : shp p q 47 = .inr (0, 1120) := rfl
theorem sh_48 {p q : Nat} : shp p q 48 = .inr (0, 8) := rfl
theorem sh_49 {p q : Nat} : shp p q 49 = .inr (0, 8) := rfl
theorem sh_50 {p q : Nat} : shp p q 50 = .inr (0, 8) := rfl
theorem sh_51 {p q : Nat} : shp p q 51 = .inl (2, [some (some 52)]) := rfl
theorem sh_52 {p q : Nat} : shp p q 52 = .inr (0, 6) := rfl
theorem sh_53 {p q : Nat} : shp p q 53 = .inl (8, [none, none, some none, none, some (some 54), some (some 55), some (some 56), some (some 57)]) := rfl
theorem sh_54 {p q : Nat} : shp p q 54 = .inr (0, 8) := rfl
theorem sh_55 {p q : Nat} : shp p q 55 = .inr (0, 8) := rfl
theorem sh_56 {p q : Nat} : shp p q 56 = .inr (0, 8) := rfl
theorem sh_57 {p q : Nat} : shp p q 57 = .inr (0, 8) := rfl
theorem sh_58 {p q : Nat} : shp p q 58 = .inl (10, [some (some 59), some (some 60)]) := rfl
theorem sh_59 {p q : Nat} : shp p q 59 = .inr (0, 36) := rfl
theorem sh_60 {p q : Nat} : shp p q 60 = .inr (0, 36) := rfl
theorem sh_61 {p q : Nat} : shp p q 61 = .inl (7, [some (some 62), some (some 63), some (some 64), none, none]) := rfl
theorem sh_62 {p q : Nat} : shp p q 62 = .inr (0, 64) := rfl
theorem sh_63 {p q : Nat} : shp p q 63 = .inr (0, 2304) := rfl
theorem sh_64 {p q : Nat} : shp p q 64 = .inr (0, 8) := rfl
theorem sh_65 {p q : Nat} : shp p q 65 = .inl (1, [some (some 66), some (some 71), none, none]) := rfl
theorem sh_66 {p q : Nat} : shp p q 66 = .inl (8, [none, none, some none, none, some (some 67), some (some 68), some (some 69), some (some 70)]) := rfl
theorem sh_67 {p q : Nat} : shp p q 67 = .inr (0, 8) := rfl
theorem sh_68 {p q : Nat} : shp p q 68 = .inr (0, 8) := rfl
theorem sh_69 {p q : Nat} : shp p q 69 = .inr (0, 8) := rfl
theorem sh_70 {p q : Nat} : shp p q 70 = .inr (0, 8) := rfl
theorem sh_71 {p q : Nat} : shp p q 71 = .inr (1, 8) := rfl
theorem sh_72 {p q : Nat} : shp p q 72 = .inr (0, 36) := rfl
theorem sh_73 {p q : Nat} : shp p q 73 = .inr (0, 8) := rfl
theorem sh_74 {p q : Nat} : shp p q 74 = .inr (0, 8) := rfl
theorem sh_75 {p q : Nat} : shp p q 75 = .inl (12, [none, none, none, none, none, none, none, none, none, some (some 76), some (some 77), some (some 78), some (some 79), some (some 80), some (some 81), none, none, none, some (some 82), none, none, none, none, none, none, none, some none, none, none, none, none, none, none, none, none, none, none, none, none, none, some (some 83), some (some 84), some (some 85), some (some 86), some (some 87), some (some 88), some (some 89), some (some 90), some (some 91), some (some 92), none, some (some 93), some (some 94), none, some (some 95), some (some 96), some (some 97), some (some 98), some (some 99), some (some 100), none, some (some 101), some (some 102), some (some 103), none, none, none, none, some (some 104), some (some 105), some (some 106)]) := rfl
theorem sh_76 {p q : Nat} : shp p q 76 = .inr (0, 8) := rfl
theorem sh_77 {p q : Nat} : shp p q 77 = .inr (0, 64) := rfl
theorem sh_78 {p q : Nat} : shp p q 78 = .inr (0, 8) := rfl
theorem sh_79 {p q : Nat} : shp p q 79 = .inr (0, 8) := rfl
theorem sh_80 {p q : Nat} : shp p q 80 = .inr (0, 1400) := rfl
theorem sh_81 {p q : Nat} : shp p q 81 = .inr (0, 700) := rfl
theorem sh_82 {p q : Nat} : shp p q 82 = .inr (0, 3) := rfl
theorem sh_83 {p q : Nat} : shp p q 83 = .inr (0, 8) := rfl
theorem sh_84 {p q : Nat} : shp p q 84 = .inr (0, 64) := rfl
theorem sh_85 {p q : Nat} : shp p q 85 = .inr (0, 8) := rfl
theorem sh_86 {p q : Nat} : shp p q 86 = .inr (0, 8) := rfl
theorem sh_87 {p q : Nat} : shp p q 87 = .inr (0, 70) := rfl
theorem sh_88 {p q : Nat} : shp p q 88 = .inr (0, 1400) := rfl
theorem sh_89 {p q : Nat} : shp p q 89 = .inr (0, 950) := rfl
theorem sh_90 {p q : Nat} : shp p q 90 = .inr (3, 9) := rfl
theorem sh_91 {p q : Nat} : shp p q 91 = .inr (0, 140) := rfl
theorem sh_92 {p q : Nat} : shp p q 92 = .inr (0, 2800) := rfl
theorem sh_93 {p q : Nat} : shp p q 93 = .inr (0, 6) := rfl
theorem sh_94 {p q : Nat} : shp p q 94 = .inr (0, 950) := rfl
theorem sh_95 {p q : Nat} : shp p q 95 = .inr (0, 36) := rfl
theorem sh_96 {p q : Nat} : shp p q 96 = .inr (0, 36) := rfl
theorem sh_97 {p q : Nat} : shp p q 97 = .inr (0, 36) := rfl
theorem sh_98 {p q : Nat} : shp p q 98 = .inr (0, 8) := rfl
theorem sh_99 {p q : Nat} : shp p q 99 = .inr (0, 64) := rfl
theorem sh_100 {p q : Nat} : shp p q 100 = .inr (0, 2304) := rfl
theorem sh_101 {p q : Nat} : shp p q 101 = .inr (0, 24) := rfl
theorem sh_102 {p q : Nat} : shp p q 102 = .inr (0, 8) := rfl
theorem sh_103 {p q : Nat} : shp p q 103 = .inr (0, 512) := rfl
theorem sh_104 {p q : Nat} : shp p q 104 = .inr (0, 70) := rfl
theorem sh_105 {p q : Nat} : shp p q 105 = .inr (0, 2800) := rfl
theorem sh_106 {p q : Nat} : shp p q 106 = .inr (0, 24) := rfl
theorem sh_107 {p q : Nat} : shp p q 107 = .inr (1, 1) := rfl
