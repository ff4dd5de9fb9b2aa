/-- a cell's shape: an object (class, fields: an int, a long, a cell) or an array (kind, length) -/
abbrev pSh : Type := (Nat × List (Option (Option Nat))) ⊕ (Nat × Nat)
abbrev pI : Type := Nat → Nat → Int32
abbrev pJ : Type := Nat → Nat → Int64
def fvv (I : Nat → Int32) (J : Nat → Int64) (k : Nat) (t : Option (Option Nat)) : Value := match t with
  | none => .int (I k)
  | some none => .long (J k)
  | some (some b) => .ref b
def fvl (I : Nat → Int32) (J : Nat → Int64) : Nat → List (Option (Option Nat)) → List Value
  | _, [] => []
  | k, t :: r => fvv I J k t :: fvl I J (k + 1) r
def pm_st (N : Nat) (sh : Nat → pSh) (I : pI) (J : pJ) : pS := (N, fun a => match sh a with
  | .inl (ci, fs) => .inr (ci, fvl (I a) (J a) 0 fs)
  | .inr (kd, n) => if kd = 1 then .inl (1, n, .inr (J a)) else .inl (kd, n, .inl (I a)))
def upI (I : pI) (a i : Nat) (v : Int32) : pI := fun b => if b = a then upd (I a) i v else I b
def upJ (J : pJ) (a i : Nat) (v : Int64) : pJ := fun b => if b = a then vp_updL (J a) i v else J b
theorem fvl_get (I : Nat → Int32) (J : Nat → Int64) : ∀ (fs : List (Option (Option Nat))) (k i : Nat), (fvl I J k fs)[i]? = (fs[i]?).map (fvv I J (k + i))
  | [], k, i => by simp [fvl]
  | t :: r, k, 0 => rfl
  | t :: r, k, i + 1 => by
    show (fvl I J (k + 1) r)[i]? = (r[i]?).map _
    rw [fvl_get I J r (k + 1) i, show k + 1 + i = k + (i + 1) by omega]
theorem fvl_len (I : Nat → Int32) (J : Nat → Int64) : ∀ (fs : List (Option (Option Nat))) (k : Nat), (fvl I J k fs).length = fs.length
  | [], _ => rfl
  | _ :: r, k => by show (fvl I J (k + 1) r).length + 1 = r.length + 1; rw [fvl_len I J r (k + 1)]
theorem fvl_setI {I : Nat → Int32} {J : Nat → Int64} {fs : List (Option (Option Nat))} {i : Nat} {v : Int32} (h : fs[i]? = some none) : (fvl I J 0 fs).set i (.int v) = fvl (upd I i v) J 0 fs := by
  apply List.ext_getElem?
  intro j
  rw [fvl_get]
  by_cases hj : i = j
  · subst hj
    rw [List.getElem?_set_self (by rw [fvl_len]; exact (List.getElem?_eq_some_iff.mp h).1), h]
    simp [fvv, upd]
  · rw [List.getElem?_set_ne hj, fvl_get]
    cases fs[j]? with
    | none => rfl
    | some t => cases t with
      | none => simp [fvv, upd, Ne.symm hj]
      | some t => cases t <;> rfl
theorem fvl_setJ {I : Nat → Int32} {J : Nat → Int64} {fs : List (Option (Option Nat))} {i : Nat} {v : Int64} (h : fs[i]? = some (some none)) : (fvl I J 0 fs).set i (.long v) = fvl I (vp_updL J i v) 0 fs := by
  apply List.ext_getElem?
  intro j
  rw [fvl_get]
  by_cases hj : i = j
  · subst hj
    rw [List.getElem?_set_self (by rw [fvl_len]; exact (List.getElem?_eq_some_iff.mp h).1), h]
    simp [fvv, vp_updL]
  · rw [List.getElem?_set_ne hj, fvl_get]
    cases fs[j]? with
    | none => rfl
    | some t => cases t with
      | none => rfl
      | some t => cases t with
        | none => simp [fvv, vp_updL, Ne.symm hj]
        | some b => rfl
theorem st_o {N : Nat} {sh : Nat → pSh} {I : pI} {J : pJ} {a ci : Nat} {fs : List (Option (Option Nat))} (h : sh a = .inl (ci, fs)) : (pm_st N sh I J).2 a = .inr (ci, fvl (I a) (J a) 0 fs) := by
  show (match sh a with | .inl (ci, fs) => _ | .inr (kd, n) => _) = _
  rw [h]
theorem st_a {N : Nat} {sh : Nat → pSh} {I : pI} {J : pJ} {a kd n : Nat} (h : sh a = .inr (kd, n)) (hk : kd ≠ 1) : (pm_st N sh I J).2 a = .inl (kd, n, .inl (I a)) := by
  show (match sh a with | .inl (ci, fs) => _ | .inr (kd, n) => _) = _
  rw [h]
  exact if_neg hk
theorem st_l {N : Nat} {sh : Nat → pSh} {I : pI} {J : pJ} {a n : Nat} (h : sh a = .inr (1, n)) : (pm_st N sh I J).2 a = .inl (1, n, .inr (J a)) := by
  show (match sh a with | .inl (ci, fs) => _ | .inr (kd, n) => _) = _
  rw [h]
  exact if_pos rfl
theorem st_up {N : Nat} {sh : Nat → pSh} {I I' : pI} {J J' : pJ} {a : Nat} {e : pE} (h1 : (pm_st N sh I' J').2 a = e) (h2 : ∀ b, b ≠ a → I' b = I b) (h3 : ∀ b, b ≠ a → J' b = J b) : pm_up (pm_st N sh I J) a e = pm_st N sh I' J' := by
  refine Prod.ext rfl ?_
  funext b
  show va_up (pm_st N sh I J).2 a e b = _
  by_cases hb : b = a
  · subst hb
    rw [h1]
    simp [va_up]
  · have : va_up (pm_st N sh I J).2 a e b = (pm_st N sh I J).2 b := by simp [va_up, hb]
    rw [this]
    unfold pm_st
    dsimp only
    rw [h2 b hb, h3 b hb]
theorem upI_ne {I : pI} {a i : Nat} {v : Int32} : ∀ b, b ≠ a → upI I a i v b = I b := fun b h => if_neg h
theorem upJ_ne {J : pJ} {a i : Nat} {v : Int64} : ∀ b, b ≠ a → upJ J a i v b = J b := fun b h => if_neg h
theorem upI_at {I : pI} {a i : Nat} {v : Int32} : upI I a i v a = upd (I a) i v := if_pos rfl
theorem upJ_at {J : pJ} {a i : Nat} {v : Int64} : upJ J a i v a = vp_updL (J a) i v := if_pos rfl
section GT
variable {C : pC} {d : Nat} {call : pCall} {cost : Nat → Nat × Nat × Bool × Bool} {ak : Bool × Bool} {nxe mc ms : Nat} {Q : pQ} {pc tg pc' : Nat} {ls : pL} {st : List Value} {uc us : Nat} {N : Nat} {sh : Nat → pSh} {I : pI} {J : pJ}
theorem t_getI {i a ci kf : Nat} {fs : List (Option (Option Nat))} (hc : ∀ j as S (Q Q' : pQ), (∀ o S, Q o S → Q' o S) → call j as S Q → call j as S Q') (hpc : pc_in C pc = some (.getfield i, tg)) (hf : pc_fl C i = some (ci, kf)) (ha : a < N) (hs : sh a = .inl (ci, fs)) (hk : fs[kf]? = some none) (hp : pc + 3 = pc') (k : pm_ev C d call cost ak nxe mc ms Q pc' ls (.int (I a kf) :: st) uc us (pm_st N sh I J)) : pm_ev C d call cost ak nxe mc ms Q pc ls (.ref a :: st) uc us (pm_st N sh I J) :=
  g_getfield hc hpc hf ha (st_o hs) (by rw [fvl_get, hk]; simp [fvv]) hp k
theorem t_getJ {i a ci kf : Nat} {fs : List (Option (Option Nat))} (hc : ∀ j as S (Q Q' : pQ), (∀ o S, Q o S → Q' o S) → call j as S Q → call j as S Q') (hpc : pc_in C pc = some (.getfield i, tg)) (hf : pc_fl C i = some (ci, kf)) (ha : a < N) (hs : sh a = .inl (ci, fs)) (hk : fs[kf]? = some (some none)) (hp : pc + 3 = pc') (k : pm_ev C d call cost ak nxe mc ms Q pc' ls (.long (J a kf) :: st) uc us (pm_st N sh I J)) : pm_ev C d call cost ak nxe mc ms Q pc ls (.ref a :: st) uc us (pm_st N sh I J) :=
  g_getfield hc hpc hf ha (st_o hs) (by rw [fvl_get, hk]; simp [fvv]) hp k
theorem t_getR {i a ci kf : Nat} {fs : List (Option (Option Nat))} {b : Nat} (hc : ∀ j as S (Q Q' : pQ), (∀ o S, Q o S → Q' o S) → call j as S Q → call j as S Q') (hpc : pc_in C pc = some (.getfield i, tg)) (hf : pc_fl C i = some (ci, kf)) (ha : a < N) (hs : sh a = .inl (ci, fs)) (hk : fs[kf]? = some (some (some b))) (hp : pc + 3 = pc') (k : pm_ev C d call cost ak nxe mc ms Q pc' ls (.ref b :: st) uc us (pm_st N sh I J)) : pm_ev C d call cost ak nxe mc ms Q pc ls (.ref a :: st) uc us (pm_st N sh I J) :=
  g_getfield hc hpc hf ha (st_o hs) (by rw [fvl_get, hk]; simp [fvv]) hp k
theorem t_putI {i a ci kf : Nat} {fs : List (Option (Option Nat))} {v : Int32} {ty : FieldType} {fin : Bool} (hc : ∀ j as S (Q Q' : pQ), (∀ o S, Q o S → Q' o S) → call j as S Q → call j as S Q') (hpc : pc_in C pc = some (.putfield i, tg)) (hf : pc_fl C i = some (ci, kf)) (ha : a < N) (hs : sh a = .inl (ci, fs)) (hk : fs[kf]? = some none) (ht : pm_ft ci kf = some (ty, fin)) (hfit : pm_fit ty (.int v) = true) (hfin : fin = true → pc_ini C = true) (hp : pc + 3 = pc') (k : pm_ev C d call cost ak nxe mc ms Q pc' ls (st) uc us (pm_st N sh (upI I a kf v) J)) : pm_ev C d call cost ak nxe mc ms Q pc ls (.int v :: .ref a :: st) uc us (pm_st N sh I J) :=
  g_putfield hc hpc hf ha (st_o hs) (by rw [fvl_len]; exact (List.getElem?_eq_some_iff.mp hk).1) ht hfit hfin hp (by rw [fvl_setI hk, st_up (I' := upI I a kf v) (J' := J) (by rw [st_o hs, upI_at]) upI_ne (fun _ _ => rfl)]; exact k)
theorem t_putJ {i a ci kf : Nat} {fs : List (Option (Option Nat))} {v : Int64} {fin : Bool} (hc : ∀ j as S (Q Q' : pQ), (∀ o S, Q o S → Q' o S) → call j as S Q → call j as S Q') (hpc : pc_in C pc = some (.putfield i, tg)) (hf : pc_fl C i = some (ci, kf)) (ha : a < N) (hs : sh a = .inl (ci, fs)) (hk : fs[kf]? = some (some none)) (ht : pm_ft ci kf = some (.long, fin)) (hfin : fin = true → pc_ini C = true) (hp : pc + 3 = pc') (k : pm_ev C d call cost ak nxe mc ms Q pc' ls (st) uc us (pm_st N sh I (upJ J a kf v))) : pm_ev C d call cost ak nxe mc ms Q pc ls (.long v :: .ref a :: st) uc us (pm_st N sh I J) :=
  g_putfield hc hpc hf ha (st_o hs) (by rw [fvl_len]; exact (List.getElem?_eq_some_iff.mp hk).1) ht rfl hfin hp (by rw [fvl_setJ hk, st_up (I' := I) (J' := upJ J a kf v) (by rw [st_o hs, upJ_at]) (fun _ _ => rfl) upJ_ne]; exact k)
theorem t_iaload {a n : Nat} {i : Int32} (hc : ∀ j as S (Q Q' : pQ), (∀ o S, Q o S → Q' o S) → call j as S Q → call j as S Q') (hpc : pc_in C pc = some (.iaload, tg)) (ha : a < N) (hs : sh a = .inr (0, n)) (hi : ¬ (i < 0 ∨ n ≤ i.toNatClampNeg)) (hp : pc + 1 = pc') (k : pm_ev C d call cost ak nxe mc ms Q pc' ls (.int (I a i.toNatClampNeg) :: st) uc us (pm_st N sh I J)) : pm_ev C d call cost ak nxe mc ms Q pc ls (.int i :: .ref a :: st) uc us (pm_st N sh I J) :=
  g_iaload hc hpc ha (st_a hs (by decide)) hi hp k
theorem t_caload {a n : Nat} {i : Int32} (hc : ∀ j as S (Q Q' : pQ), (∀ o S, Q o S → Q' o S) → call j as S Q → call j as S Q') (hpc : pc_in C pc = some (.caload, tg)) (ha : a < N) (hs : sh a = .inr (2, n)) (hi : ¬ (i < 0 ∨ n ≤ i.toNatClampNeg)) (hp : pc + 1 = pc') (k : pm_ev C d call cost ak nxe mc ms Q pc' ls (.int (I a i.toNatClampNeg) :: st) uc us (pm_st N sh I J)) : pm_ev C d call cost ak nxe mc ms Q pc ls (.int i :: .ref a :: st) uc us (pm_st N sh I J) :=
  g_caload hc hpc ha (st_a hs (by decide)) hi hp k
theorem t_baload {a n : Nat} {i : Int32} (hc : ∀ j as S (Q Q' : pQ), (∀ o S, Q o S → Q' o S) → call j as S Q → call j as S Q') (hpc : pc_in C pc = some (.baload, tg)) (ha : a < N) (hs : sh a = .inr (3, n)) (hi : ¬ (i < 0 ∨ n ≤ i.toNatClampNeg)) (hp : pc + 1 = pc') (k : pm_ev C d call cost ak nxe mc ms Q pc' ls (.int (I a i.toNatClampNeg) :: st) uc us (pm_st N sh I J)) : pm_ev C d call cost ak nxe mc ms Q pc ls (.int i :: .ref a :: st) uc us (pm_st N sh I J) :=
  g_baload hc hpc ha (st_a hs (by decide)) hi hp k
theorem t_laload {a n : Nat} {i : Int32} (hc : ∀ j as S (Q Q' : pQ), (∀ o S, Q o S → Q' o S) → call j as S Q → call j as S Q') (hpc : pc_in C pc = some (.laload, tg)) (ha : a < N) (hs : sh a = .inr (1, n)) (hi : ¬ (i < 0 ∨ n ≤ i.toNatClampNeg)) (hp : pc + 1 = pc') (k : pm_ev C d call cost ak nxe mc ms Q pc' ls (.long (J a i.toNatClampNeg) :: st) uc us (pm_st N sh I J)) : pm_ev C d call cost ak nxe mc ms Q pc ls (.int i :: .ref a :: st) uc us (pm_st N sh I J) :=
  g_laload hc hpc ha (st_l hs) hi hp k
theorem t_iastore {a n : Nat} {i x : Int32} (hc : ∀ j as S (Q Q' : pQ), (∀ o S, Q o S → Q' o S) → call j as S Q → call j as S Q') (hpc : pc_in C pc = some (.iastore, tg)) (ha : a < N) (hs : sh a = .inr (0, n)) (hi : ¬ (i < 0 ∨ n ≤ i.toNatClampNeg)) (hp : pc + 1 = pc') (k : pm_ev C d call cost ak nxe mc ms Q pc' ls (st) uc us (pm_st N sh (upI I a i.toNatClampNeg x) J)) : pm_ev C d call cost ak nxe mc ms Q pc ls (.int x :: .int i :: .ref a :: st) uc us (pm_st N sh I J) :=
  g_iastore hc hpc ha (st_a hs (by decide)) hi hp (by rw [st_up (I' := upI I a i.toNatClampNeg x) (J' := J) (by rw [st_a hs (by decide), upI_at]) upI_ne (fun _ _ => rfl)]; exact k)
theorem t_castore {a n : Nat} {i x : Int32} (hc : ∀ j as S (Q Q' : pQ), (∀ o S, Q o S → Q' o S) → call j as S Q → call j as S Q') (hpc : pc_in C pc = some (.castore, tg)) (ha : a < N) (hs : sh a = .inr (2, n)) (hi : ¬ (i < 0 ∨ n ≤ i.toNatClampNeg)) (hp : pc + 1 = pc') (k : pm_ev C d call cost ak nxe mc ms Q pc' ls (st) uc us (pm_st N sh (upI I a i.toNatClampNeg (vp_nar .char x)) J)) : pm_ev C d call cost ak nxe mc ms Q pc ls (.int x :: .int i :: .ref a :: st) uc us (pm_st N sh I J) :=
  g_castore hc hpc ha (st_a hs (by decide)) hi hp (by rw [st_up (I' := upI I a i.toNatClampNeg (vp_nar .char x)) (J' := J) (by rw [st_a hs (by decide), upI_at]) upI_ne (fun _ _ => rfl)]; exact k)
theorem t_bastore {a n : Nat} {i x : Int32} (hc : ∀ j as S (Q Q' : pQ), (∀ o S, Q o S → Q' o S) → call j as S Q → call j as S Q') (hpc : pc_in C pc = some (.bastore, tg)) (ha : a < N) (hs : sh a = .inr (3, n)) (hi : ¬ (i < 0 ∨ n ≤ i.toNatClampNeg)) (hp : pc + 1 = pc') (k : pm_ev C d call cost ak nxe mc ms Q pc' ls (st) uc us (pm_st N sh (upI I a i.toNatClampNeg (vp_nar .boolean x)) J)) : pm_ev C d call cost ak nxe mc ms Q pc ls (.int x :: .int i :: .ref a :: st) uc us (pm_st N sh I J) :=
  g_bastore hc hpc ha (st_a hs (by decide)) hi hp (by rw [st_up (I' := upI I a i.toNatClampNeg (vp_nar .boolean x)) (J' := J) (by rw [st_a hs (by decide), upI_at]) upI_ne (fun _ _ => rfl)]; exact k)
theorem t_lastore {a n : Nat} {i : Int32} {x : Int64} (hc : ∀ j as S (Q Q' : pQ), (∀ o S, Q o S → Q' o S) → call j as S Q → call j as S Q') (hpc : pc_in C pc = some (.lastore, tg)) (ha : a < N) (hs : sh a = .inr (1, n)) (hi : ¬ (i < 0 ∨ n ≤ i.toNatClampNeg)) (hp : pc + 1 = pc') (k : pm_ev C d call cost ak nxe mc ms Q pc' ls (st) uc us (pm_st N sh I (upJ J a i.toNatClampNeg x))) : pm_ev C d call cost ak nxe mc ms Q pc ls (.long x :: .int i :: .ref a :: st) uc us (pm_st N sh I J) :=
  g_lastore hc hpc ha (st_l hs) hi hp (by rw [st_up (I' := I) (J' := upJ J a i.toNatClampNeg x) (by rw [st_l hs, upJ_at]) (fun _ _ => rfl) upJ_ne]; exact k)
end GT
def shl_0 (sw : Bool) : List pSh := [.inl (11, [some (some 1), some (some 3), none, some (some 6), some (some (if sw then 19 else 7)), some (some (if sw then 7 else 19)), some (some 31), some (some 36), none, some (some 41), some (some 46), some (some 51), some (some 53), some (some 58), some (some 61), some (some 65), some (some 72), some (some 73), some (some 74), none]), .inl (9, [some (some 2), none, none, none, none, none, none]), .inr (2, 700), .inl (4, [some (some 4), none]), .inl (6, [some (some 5), none, none, none, none, none]), .inr (0, 128), .inr (0, 3), .inl (3, [none, none, some none, none, some (some 8), some (some 9), some (some 10), none, some (some 11), none, some (some 12), none, none, some (some 13), some (some 16)]), .inr (0, 8), .inr (0, 8), .inr (0, 64), .inr (0, 8), .inr (0, 8), .inl (5, [some (some 14), some (some 15), none]), .inr (0, 48), .inr (0, 700), .inl (5, [some (some 17), some (some 18), none]), .inr (0, 48), .inr (0, 700), .inl (3, [none, none, some none, none, some (some 20), some (some 21), some (some 22), none, some (some 23), none, some (some 24), none, none, some (some 25), some (some 28)]), .inr (0, 8), .inr (0, 8), .inr (0, 64), .inr (0, 8), .inr (0, 8), .inl (5, [some (some 26), some (some 27), none]), .inr (0, 48)]
def shl_1 (sw : Bool) : List pSh := [.inr (0, 700), .inl (5, [some (some 29), some (some 30), none]), .inr (0, 48), .inr (0, 700), .inl (8, [none, none, some none, none, some (some 32), some (some 33), some (some 34), some (some 35)]), .inr (0, 8), .inr (0, 8), .inr (0, 8), .inr (0, 8), .inl (0, [some (some 37), none, none, none, some (some 38), some (some 39), some (some 40)]), .inr (0, 1120), .inr (0, 8), .inr (0, 8), .inr (0, 8), .inl (8, [none, none, some none, none, some (some 42), some (some 43), some (some 44), some (some 45)]), .inr (0, 8), .inr (0, 8), .inr (0, 8), .inr (0, 8), .inl (0, [some (some 47), none, none, none, some (some 48), some (some 49), some (some 50)]), .inr (0, 1120), .inr (0, 8), .inr (0, 8), .inr (0, 8), .inl (2, [some (some 52)]), .inr (0, 6), .inl (8, [none, none, some none, none, some (some 54), some (some 55), some (some 56), some (some 57)])]
def shl_2 (sw : Bool) : List pSh := [.inr (0, 8), .inr (0, 8), .inr (0, 8), .inr (0, 8), .inl (10, [some (some 59), some (some 60)]), .inr (0, 36), .inr (0, 36), .inl (7, [some (some 62), some (some 63), some (some 64), none, none]), .inr (0, 64), .inr (0, 2304), .inr (0, 8), .inl (1, [some (some 66), some (some 71), none, none]), .inl (8, [none, none, some none, none, some (some 67), some (some 68), some (some 69), some (some 70)]), .inr (0, 8), .inr (0, 8), .inr (0, 8), .inr (0, 8), .inr (1, 8), .inr (0, 36), .inr (0, 8), .inr (0, 8), .inl (12, [none, none, none, none, none, none, none, none, none, some (some 76), some (some 77), some (some 78), some (some 79), some (some 80), some (some 81), none, none, none, some (some 82), none, none, none, none, none, none, none, some none, none, none, none, none, none, none, none, none, none, none, none, none, none, some (some 83), some (some 84), some (some 85), some (some 86), some (some 87), some (some 88), some (some 89), some (some 90), some (some 91), some (some 92), none, some (some 93), some (some 94), none, some (some 95), some (some 96), some (some 97), some (some 98), some (some 99), some (some 100), none, some (some 101), some (some 102), some (some 103), none, none, none, none, some (some 104), some (some 105), some (some 106)]), .inr (0, 8), .inr (0, 64), .inr (0, 8), .inr (0, 8), .inr (0, 1400)]
def shl_3 (sw : Bool) : List pSh := [.inr (0, 700), .inr (0, 3), .inr (0, 8), .inr (0, 64), .inr (0, 8), .inr (0, 8), .inr (0, 70), .inr (0, 1400), .inr (0, 950), .inr (3, 9), .inr (0, 140), .inr (0, 2800), .inr (0, 6), .inr (0, 950), .inr (0, 36), .inr (0, 36), .inr (0, 36), .inr (0, 8), .inr (0, 64), .inr (0, 2304), .inr (0, 24), .inr (0, 8), .inr (0, 512), .inr (0, 70), .inr (0, 2800), .inr (0, 24), .inr (1, 1)]
/-- the cells of a run: TownTable from 0 on, TownTableModel from 75 on, the long[1] at 107; sw: whether plan and spare have changed places -/
def shp (sw : Bool) (a : Nat) : pSh := if a < 27 then (shl_0 sw).getD a (.inr (0, 0)) else if a < 54 then (shl_1 sw).getD (a - 27) (.inr (0, 0)) else if a < 81 then (shl_2 sw).getD (a - 54) (.inr (0, 0)) else (shl_3 sw).getD (a - 81) (.inr (0, 0))
