/-! READING RULES: the machine that both are -/
def rkN (x : Int32) : Nat := if x = -19 then 6 else if x = -18 then 6 else if x = -17 then 5 else if x = -16 then 5 else if x = -15 then 4 else if x = -14 then 4 else if x = -13 then 3 else if x = -12 then 2 else if x = -11 then 1 else 0
def isW (x : Int32) : Prop := isOp x ∨ x = -20
def rel (l : Nat) : List Int32 → List Int32 → List Int32 × List Int32
  | [], o => ([], o)
  | x :: s, o => if rkN x < l then (x :: s, o) else rel l s (x :: o)
theorem rel_t {l : Nat} {x : Int32} {s o : List Int32} (h : rkN x < l) : rel l (x :: s) o = (x :: s, o) := if_pos h
theorem rel_f {l : Nat} {x : Int32} {s o : List Int32} (h : ¬ rkN x < l) : rel l (x :: s) o = rel l s (x :: o) := if_neg h
def stL (a : Nat → Int32) : Nat → List Int32
  | 0 => []
  | k + 1 => a k :: stL a k
theorem stL_len {a : Nat → Int32} : ∀ k, (stL a k).length = k
  | 0 => rfl
  | k + 1 => by show (stL a k).length + 1 = k + 1; rw [stL_len k]
theorem stL_cg {a c : Nat → Int32} : ∀ {k : Nat}, (∀ j, j < k → a j = c j) → stL a k = stL c k
  | 0, _ => rfl
  | k + 1, h => by show a k :: stL a k = c k :: stL c k; rw [h k (by omega), stL_cg (fun j hj => h j (by omega))]
theorem stL_upd {a : Nat → Int32} {k : Nat} {x : Int32} : stL (upd a k x) (k + 1) = x :: stL a k := by
  show upd a k x k :: stL (upd a k x) k = _
  rw [pk_us, stL_cg (fun j hj => pk_un (by omega))]
theorem stL_mem {a : Nat → Int32} {k j : Nat} (h : j < k) : a j ∈ stL a k := by
  induction k with
  | zero => omega
  | succ k ih =>
    show a j ∈ a k :: stL a k
    by_cases q : j = k
    · rw [q]; exact List.mem_cons_self
    · exact List.mem_cons_of_mem _ (ih (by omega))
/-- whether a part is due, may begin with not, nots, parentheses, what waits, what is out, the token's place -/
abbrev RS := Bool × Bool × Nat × Nat × List Int32 × List Int32 × Nat
def sgI (b : Nat → Int32) (n p : Nat) (c : Int32) : Bool := decide (tK b n p = 3) && (b p == c)
def nxP (b : Nat → Int32) (n p : Nat) : Nat := tP b n (tE b n p)
def opO (b : Nat → Int32) (n p : Nat) : Int32 := if tw b n p 14 then -11 else if tw b n p 13 then -12 else if tK b n p = 3 then (if b p = 42 then -18 else if b p = 43 then -16 else if b p = 45 then -17 else if b p = 47 then -19 else if b p = 60 then -14 else if b p = 61 then -15 else -1) else -1
def vlO (b : Nat → Int32) (n p : Nat) (oh : Bool) : Int32 := if tw b n p 1 then 0 else if tw b n p 2 then 1 else if tw b n p 3 then 2 else if tw b n p 4 then 3 else if !oh && tw b n p 0 then 4 else if oh && tw b n p 5 then 5 else -1
def aPart (b : Nat → Int32) (n : Nat) (oh : Bool) (s : RS) : RS ⊕ Nat :=
  if sgI b n s.2.2.2.2.2.2 40 then (if s.2.2.2.1 < 6 then .inl (true, true, 0, s.2.2.2.1 + 1, -20 :: s.2.2.2.2.1, s.2.2.2.2.2.1, nxP b n s.2.2.2.2.2.2) else .inr 2)
  else if tK b n s.2.2.2.2.2.2 = 2 then (if s.2.2.2.1 < 6 then (if tE b n s.2.2.2.2.2.2 - s.2.2.2.2.2.2 ≤ 4 then .inl (false, s.2.1, s.2.2.1, s.2.2.2.1, s.2.2.2.2.1, nvI b s.2.2.2.2.2.2 (tE b n s.2.2.2.2.2.2 - s.2.2.2.2.2.2) :: s.2.2.2.2.2.1, nxP b n s.2.2.2.2.2.2) else .inr 2) else .inr 2)
  else if tK b n s.2.2.2.2.2.2 = 1 then (if s.2.2.2.1 < 6 then (if (s.2.1 && tw b n s.2.2.2.2.2.2 15) then (if s.2.2.1 < 6 then .inl (true, s.2.1, s.2.2.1 + 1, s.2.2.2.1, -13 :: s.2.2.2.2.1, s.2.2.2.2.2.1, nxP b n s.2.2.2.2.2.2) else .inr 2) else (if vlO b n s.2.2.2.2.2.2 oh = -1 then .inr 3 else .inl (false, s.2.1, s.2.2.1, s.2.2.2.1, s.2.2.2.2.1, ((-1 : Int32) - vlO b n s.2.2.2.2.2.2 oh) :: s.2.2.2.2.2.1, nxP b n s.2.2.2.2.2.2))) else .inr 2)
  else .inr 1
def tp4 (s : List Int32) : Bool := match s with
  | [] => false
  | x :: _ => rkN x == 4
def opL (r : Nat) : Nat := if r = 4 then 5 else r
def aOper (b : Nat → Int32) (n : Nat) (s : RS) : RS ⊕ Nat :=
  if (sgI b n s.2.2.2.2.2.2 41 && decide (0 < s.2.2.2.1)) then .inl (false, s.2.1, s.2.2.1, s.2.2.2.1 - 1, (rel 1 s.2.2.2.2.1 s.2.2.2.2.2.1).1.tail, (rel 1 s.2.2.2.2.1 s.2.2.2.2.2.1).2, nxP b n s.2.2.2.2.2.2)
  else if opO b n s.2.2.2.2.2.2 = -1 then .inr 1
  else if (decide (rkN (opO b n s.2.2.2.2.2.2) = 4) && tp4 (rel (opL (rkN (opO b n s.2.2.2.2.2.2))) s.2.2.2.2.1 s.2.2.2.2.2.1).1) then .inr 1
  else .inl (true, decide (rkN (opO b n s.2.2.2.2.2.2) ≤ 2), 0, s.2.2.2.1, opO b n s.2.2.2.2.2.2 :: (rel (opL (rkN (opO b n s.2.2.2.2.2.2))) s.2.2.2.2.1 s.2.2.2.2.2.1).1, (rel (opL (rkN (opO b n s.2.2.2.2.2.2))) s.2.2.2.2.1 s.2.2.2.2.2.1).2, nxP b n s.2.2.2.2.2.2)
/-- a fault (0: none), its place, the rule's code -/
abbrev RR3 := Nat × Nat × List Int32
def aNx (b : Nat → Int32) (n : Nat) (oh : Bool) (s : RS) : RS ⊕ Nat := if s.1 then aPart b n oh s else aOper b n s
def aSt (b : Nat → Int32) (n : Nat) (oh : Bool) (s : RS) : RS ⊕ RR3 :=
  if (!s.1 && (decide (s.2.2.2.1 = 0) && sgI b n s.2.2.2.2.2.2 59)) then .inr (0, s.2.2.2.2.2.2, (rel 1 s.2.2.2.2.1 s.2.2.2.2.2.1).2)
  else match aNx b n oh s with
    | .inl s' => .inl s'
    | .inr k => .inr (k, s.2.2.2.2.2.2, [])
def aGo (b : Nat → Int32) (n : Nat) (oh : Bool) : Nat → RS → RR3
  | 0, s => (9, s.2.2.2.2.2.2, [])
  | f + 1, s => match aSt b n oh s with
    | .inl s' => aGo b n oh f s'
    | .inr r => r
theorem aGo_l {b : Nat → Int32} {n : Nat} {oh : Bool} {f : Nat} {s s' : RS} (h : aSt b n oh s = .inl s') : aGo b n oh (f + 1) s = aGo b n oh f s' := by
  show (match aSt b n oh s with
    | .inl s' => aGo b n oh f s'
    | .inr r => r) = _
  rw [h]
theorem aGo_r {b : Nat → Int32} {n : Nat} {oh : Bool} {f : Nat} {s : RS} {r : RR3} (h : aSt b n oh s = .inr r) : aGo b n oh (f + 1) s = r := by
  show (match aSt b n oh s with
    | .inl s' => aGo b n oh f s'
    | .inr r => r) = _
  rw [h]
theorem aSt_e {b : Nat → Int32} {n : Nat} {oh : Bool} {s : RS} (h : (!s.1 && (decide (s.2.2.2.1 = 0) && sgI b n s.2.2.2.2.2.2 59)) = true) : aSt b n oh s = .inr (0, s.2.2.2.2.2.2, (rel 1 s.2.2.2.2.1 s.2.2.2.2.2.1).2) := if_pos h
theorem aSt_l {b : Nat → Int32} {n : Nat} {oh : Bool} {s s' : RS} (h : (!s.1 && (decide (s.2.2.2.1 = 0) && sgI b n s.2.2.2.2.2.2 59)) = false) (h2 : aNx b n oh s = .inl s') : aSt b n oh s = .inl s' := by
  unfold aSt
  rw [if_neg (by rw [h]; decide), h2]
theorem aSt_r {b : Nat → Int32} {n : Nat} {oh : Bool} {s : RS} {k : Nat} (h : (!s.1 && (decide (s.2.2.2.1 = 0) && sgI b n s.2.2.2.2.2.2 59)) = false) (h2 : aNx b n oh s = .inr k) : aSt b n oh s = .inr (k, s.2.2.2.2.2.2, []) := by
  unfold aSt
  rw [if_neg (by rw [h]; decide), h2]
/-- what waits is in order: parentheses, the last rank, nots -/
def chk : List Int32 → Option (Nat × Nat × Nat)
  | [] => some (0, 0, 0)
  | x :: s => match chk s with
    | none => none
    | some (d, r, j) => if x = -20 then some (d + 1, 0, 0) else if x = -13 then (if r ≤ 3 ∧ j < 6 then some (d, 3, j + 1) else none) else if 0 < rkN x ∧ r < rkN x then some (d, rkN x, 0) else none
theorem chk_c {x : Int32} {s : List Int32} {q : Nat × Nat × Nat} (h : chk (x :: s) = some q) : ∃ d r j, chk s = some (d, r, j) ∧ ((x = -20 ∧ q = (d + 1, 0, 0)) ∨ (x = -13 ∧ r ≤ 3 ∧ j < 6 ∧ q = (d, 3, j + 1)) ∨ (¬ x = -20 ∧ ¬ x = -13 ∧ 0 < rkN x ∧ r < rkN x ∧ q = (d, rkN x, 0))) := by
  unfold chk at h
  cases e : chk s with
  | none => rw [e] at h; cases h
  | some t =>
    obtain ⟨d, r, j⟩ := t
    rw [e] at h
    dsimp only at h
    refine ⟨d, r, j, rfl, ?_⟩
    by_cases h1 : x = -20
    · rw [if_pos h1] at h
      injection h with h
      exact .inl ⟨h1, h.symm⟩
    · rw [if_neg h1] at h
      by_cases h2 : x = -13
      · rw [if_pos h2] at h
        by_cases h3 : r ≤ 3 ∧ j < 6
        · rw [if_pos h3] at h
          injection h with h
          exact .inr (.inl ⟨h2, h3.1, h3.2, h.symm⟩)
        · rw [if_neg h3] at h; cases h
      · rw [if_neg h2] at h
        by_cases h3 : 0 < rkN x ∧ r < rkN x
        · rw [if_pos h3] at h
          injection h with h
          exact .inr (.inr ⟨h1, h2, h3.1, h3.2, h.symm⟩)
        · rw [if_neg h3] at h; cases h
theorem chk_open {s : List Int32} {d r j : Nat} (h : chk s = some (d, r, j)) : chk (-20 :: s) = some (d + 1, 0, 0) := by
  unfold chk
  rw [h]; rfl
theorem chk_not {s : List Int32} {d r j : Nat} (h : chk s = some (d, r, j)) (h1 : r ≤ 3) (h2 : j < 6) : chk (-13 :: s) = some (d, 3, j + 1) := by
  unfold chk
  rw [h]
  dsimp only
  rw [if_neg (by decide), if_pos rfl, if_pos ⟨h1, h2⟩]
theorem chk_op {s : List Int32} {d r j : Nat} {x : Int32} (h : chk s = some (d, r, j)) (h1 : ¬ x = -20) (h2 : ¬ x = -13) (h3 : r < rkN x) : chk (x :: s) = some (d, rkN x, 0) := by
  unfold chk
  rw [h]
  dsimp only
  rw [if_neg h1, if_neg h2, if_pos ⟨by omega, h3⟩]
theorem rk_op {x : Int32} (h : 0 < rkN x) : isOp x := by
  unfold rkN at h
  unfold isOp
  by_cases h1 : x = -19
  · exact .inr (.inr (.inr (.inr (.inr (.inr (.inr (.inr h1)))))))
  rw [if_neg h1] at h
  by_cases h1 : x = -18
  · exact .inr (.inr (.inr (.inr (.inr (.inr (.inr (.inl h1)))))))
  rw [if_neg h1] at h
  by_cases h1 : x = -17
  · exact .inr (.inr (.inr (.inr (.inr (.inr (.inl h1))))))
  rw [if_neg h1] at h
  by_cases h1 : x = -16
  · exact .inr (.inr (.inr (.inr (.inr (.inl h1)))))
  rw [if_neg h1] at h
  by_cases h1 : x = -15
  · exact .inr (.inr (.inr (.inr (.inl h1))))
  rw [if_neg h1] at h
  by_cases h1 : x = -14
  · exact .inr (.inr (.inr (.inl h1)))
  rw [if_neg h1] at h
  by_cases h1 : x = -13
  · exact .inr (.inr (.inl h1))
  rw [if_neg h1] at h
  by_cases h1 : x = -12
  · exact .inr (.inl h1)
  rw [if_neg h1] at h
  by_cases h1 : x = -11
  · exact .inl h1
  rw [if_neg h1] at h
  omega
theorem rk_le {x : Int32} : rkN x ≤ 6 := by
  unfold rkN
  repeat' split
  all_goals omega
theorem rk_20 : rkN (-20) = 0 := by decide
theorem rk_13 : rkN (-13) = 3 := by decide
theorem rk_n3 {x : Int32} (h : ¬ x = -13) : ¬ rkN x = 3 := by
  unfold rkN
  rw [if_neg h]
  repeat' split
  all_goals omega
/-- binary operators that wait; numbers on the pile -/
def bins : List Int32 → Nat
  | [] => 0
  | x :: s => if x = -20 ∨ x = -13 then bins s else bins s + 1
def dep : List Int32 → Nat
  | [] => 0
  | x :: o => if x < -6 then (if x = -13 then dep o else dep o - 1) else dep o + 1
def okL : List Int32 → Prop
  | [] => True
  | x :: o => okL o ∧ (x < -6 → (x = -13 → 1 ≤ dep o) ∧ (¬ x = -13 → 2 ≤ dep o)) ∧ (¬ x < -6 → dep o < 48)
def bnR (r : Nat) : Nat := if r ≤ 2 then r else r - 1
def lnR (r j : Nat) : Nat := if r ≤ 2 then r else if r = 3 then 2 + j else r + 5
theorem chk_len {s : List Int32} : ∀ {d r j : Nat}, chk s = some (d, r, j) → s.length ≤ 12 * d + lnR r j ∧ j ≤ 6 ∧ r ≤ 6 ∧ (¬ r = 3 → j = 0) ∧ bins s ≤ 5 * d + bnR r ∧ (∀ x, x ∈ s → isW x) := by
  induction s with
  | nil =>
    intro d r j h
    have h' : some (0, 0, 0) = some (d, r, j) := h
    injection h' with h'
    injection h' with h1 h2
    injection h2 with h2 h3
    subst h1 h2 h3
    exact ⟨Nat.le_refl _, by omega, by omega, fun _ => rfl, Nat.le_refl _, fun x hx => by cases hx⟩
  | cons x s ih =>
    intro d r j h
    obtain ⟨d1, r1, j1, e, hc⟩ := chk_c h
    obtain ⟨i1, i2, i3, i4, i5, i6⟩ := ih e
    unfold lnR at i1
    unfold bnR at i5
    have hlen : (x :: s).length = s.length + 1 := rfl
    have hbin : bins (x :: s) = if x = -20 ∨ x = -13 then bins s else bins s + 1 := rfl
    rw [hlen, hbin]
    unfold lnR bnR
    rcases hc with ⟨hx, hq⟩ | ⟨hx, h1, h2, hq⟩ | ⟨n1, n2, h1, h2, hq⟩
    · injection hq with q1 q2
      injection q2 with q2 q3
      subst q1 q2 q3
      rw [if_pos (Or.inl hx)]
      refine ⟨?_, by omega, by omega, fun _ => rfl, ?_, ?_⟩
      · rw [if_pos (by omega)]
        split at i1
        · omega
        · split at i1 <;> omega
      · rw [if_pos (by omega)]
        split at i5 <;> omega
      · intro y hy
        rcases List.mem_cons.mp hy with hy | hy
        · rw [hy]; exact .inr hx
        · exact i6 y hy
    · injection hq with q1 q2
      injection q2 with q2 q3
      subst q1 q2 q3
      rw [if_pos (Or.inr hx)]
      refine ⟨?_, by omega, by omega, fun q => absurd rfl q, ?_, ?_⟩
      · rw [if_neg (by omega), if_pos rfl]
        by_cases q : r1 = 3
        · rw [if_neg (by omega), if_pos q] at i1; omega
        · rw [if_pos (by omega)] at i1; omega
      · rw [if_neg (by omega)]
        split at i5 <;> omega
      · intro y hy
        rcases List.mem_cons.mp hy with hy | hy
        · rw [hy, hx]; exact .inl (.inr (.inr (.inl rfl)))
        · exact i6 y hy
    · injection hq with q1 q2
      injection q2 with q2 q3
      subst q1 q2 q3
      have h6 := rk_le (x := x)
      have h3 := rk_n3 n2
      rw [if_neg (show ¬ (x = -20 ∨ x = -13) from fun q => q.elim n1 n2)]
      refine ⟨?_, by omega, by omega, fun _ => rfl, ?_, ?_⟩
      · rw [if_neg h3]
        split
        · rw [if_pos (by omega)] at i1; omega
        · split at i1
          · omega
          · split at i1 <;> omega
      · split
        · rw [if_pos (by omega)] at i5; omega
        · split at i5 <;> omega
      · intro y hy
        rcases List.mem_cons.mp hy with hy | hy
        · rw [hy]; exact .inl (rk_op h1)
        · exact i6 y hy
theorem chk_top {x : Int32} {s : List Int32} {d r j : Nat} (h : chk (x :: s) = some (d, r, j)) : rkN x = r := by
  obtain ⟨d1, r1, j1, e, hc⟩ := chk_c h
  rcases hc with ⟨hx, hq⟩ | ⟨hx, h1, h2, hq⟩ | ⟨n1, n2, h1, h2, hq⟩
  · injection hq with q1 q2; injection q2 with q2 q3; rw [hx, q2]; exact rk_20
  · injection hq with q1 q2; injection q2 with q2 q3; rw [hx, q2]; exact rk_13
  · injection hq with q1 q2; injection q2 with q2 q3; exact q2.symm
/-- which parentheses hold a test -/
def lvF : List Int32 → List Bool
  | [] => [false]
  | x :: s => if x = -20 then false :: lvF s else match lvF s with
    | [] => []
    | h :: t => (h || (rkN x == 4)) :: t
theorem lvF_c {s : List Int32} : ∀ {d r j : Nat}, chk s = some (d, r, j) → ∃ h t, lvF s = h :: t ∧ t.length = d ∧ (r < 4 → h = false) ∧ (r = 4 → h = true) := by
  induction s with
  | nil =>
    intro d r j h
    have h' : some (0, 0, 0) = some (d, r, j) := h
    injection h' with h'
    injection h' with h1 h2
    injection h2 with h2 h3
    subst h1 h2 h3
    exact ⟨false, [], rfl, rfl, fun _ => rfl, fun q => by omega⟩
  | cons x s ih =>
    intro d r j h
    obtain ⟨d1, r1, j1, e, hc⟩ := chk_c h
    obtain ⟨f, t, i1, i2, i3, i4⟩ := ih e
    have hl : lvF (x :: s) = if x = -20 then false :: lvF s else match lvF s with
      | [] => []
      | h :: t => (h || (rkN x == 4)) :: t := rfl
    rcases hc with ⟨hx, hq⟩ | ⟨hx, h1, h2, hq⟩ | ⟨n1, n2, h1, h2, hq⟩
    · injection hq with q1 q2; injection q2 with q2 q3; subst q1 q2 q3
      rw [hl, if_pos hx]
      exact ⟨false, lvF s, rfl, by rw [i1, List.length_cons, i2], fun _ => rfl, fun q => by omega⟩
    · injection hq with q1 q2; injection q2 with q2 q3; subst q1 q2 q3
      rw [hl, if_neg (by rw [hx]; decide), i1]
      refine ⟨_, t, rfl, i2, fun _ => ?_, fun q => by omega⟩
      rw [i3 (by omega), hx, rk_13]; rfl
    · injection hq with q1 q2; injection q2 with q2 q3; subst q1 q2 q3
      rw [hl, if_neg n1, i1]
      refine ⟨_, t, rfl, i2, fun q => ?_, fun q => ?_⟩
      · rw [i3 (by omega), beq_false_of_ne (by omega)]; rfl
      · rw [q, Bool.or_comm]; rfl
/-- what release does -/
theorem rel_ok {l : Nat} (hl : 1 ≤ l) {s : List Int32} : ∀ {o : List Int32} {d r j : Nat}, chk s = some (d, r, j) → okL o → dep o = bins s + 1 → (∀ x, x ∈ o → isOp x ∨ ¬ x < -6) → ∃ r2 j2, chk (rel l s o).1 = some (d, r2, j2) ∧ r2 < l ∧ okL (rel l s o).2 ∧ dep (rel l s o).2 = bins (rel l s o).1 + 1 ∧ (rel l s o).2.length + (rel l s o).1.length = o.length + s.length ∧ o.length ≤ (rel l s o).2.length ∧ (rel l s o).1.length ≤ s.length ∧ (∀ h t, lvF s = h :: t → ∃ h2, lvF (rel l s o).1 = h2 :: t ∧ (5 ≤ l → h2 = h)) ∧ (∀ x, x ∈ (rel l s o).2 → isOp x ∨ ¬ x < -6) := by
  induction s with
  | nil =>
    intro o d r j h ho hd hi
    have h' : some (0, 0, 0) = some (d, r, j) := h
    injection h' with h'
    injection h' with h1 h2
    injection h2 with h2 h3
    subst h1 h2 h3
    exact ⟨0, 0, rfl, by omega, ho, hd, rfl, Nat.le_refl _, Nat.le_refl _, fun h t e => ⟨h, e, fun _ => rfl⟩, hi⟩
  | cons x s ih =>
    intro o d r j h ho hd hi
    by_cases q : rkN x < l
    · rw [rel_t q]
      exact ⟨r, j, h, by rw [← chk_top h]; exact q, ho, hd, rfl, Nat.le_refl _, Nat.le_refl _, fun h t e => ⟨h, e, fun _ => rfl⟩, hi⟩
    · rw [rel_f q]
      obtain ⟨d1, r1, j1, e, hc⟩ := chk_c h
      have hop : isOp x := rk_op (by omega)
      have hlt := isOp_lt hop
      have hn20 : ¬ x = -20 := fun hx => by rw [hx, rk_20] at q; omega
      have hbin : bins (x :: s) = if x = -20 ∨ x = -13 then bins s else bins s + 1 := rfl
      have hdp : dep (x :: o) = if x < -6 then (if x = -13 then dep o else dep o - 1) else dep o + 1 := rfl
      rw [if_pos hlt] at hdp
      have hd1 : d1 = d := by
        rcases hc with ⟨hx, hq⟩ | ⟨hx, h1, h2, hq⟩ | ⟨n1, n2, h1, h2, hq⟩
        · exact absurd hx hn20
        · injection hq with q1 q2; exact q1.symm
        · injection hq with q1 q2; exact q1.symm
      subst hd1
      have key : okL (x :: o) ∧ dep (x :: o) = bins s + 1 := by
        by_cases h13 : x = -13
        · rw [if_pos (Or.inr h13)] at hbin
          rw [if_pos h13] at hdp
          refine ⟨⟨ho, fun _ => ⟨fun _ => by omega, fun q => absurd h13 q⟩, fun q => absurd hlt q⟩, by omega⟩
        · rw [if_neg (fun q => q.elim hn20 h13)] at hbin
          rw [if_neg h13] at hdp
          refine ⟨⟨ho, fun _ => ⟨fun q => absurd q h13, fun _ => by omega⟩, fun q => absurd hlt q⟩, by omega⟩
      obtain ⟨r2, j2, a1, a2, a3, a4, a5, a6, a7, a8, a9⟩ := ih (o := x :: o) e key.1 key.2 (fun y hy => by
        rcases List.mem_cons.mp hy with hy | hy
        · rw [hy]; exact .inl hop
        · exact hi y hy)
      rw [List.length_cons] at a5 a6
      refine ⟨r2, j2, a1, a2, a3, a4, by rw [List.length_cons]; omega, by omega, by rw [List.length_cons]; omega, fun f t ef => ?_, a9⟩
      have hl2 : lvF (x :: s) = if x = -20 then false :: lvF s else match lvF s with
        | [] => []
        | h :: t => (h || (rkN x == 4)) :: t := rfl
      rw [if_neg hn20] at hl2
      obtain ⟨f1, t1, e1, _⟩ := lvF_c e
      rw [e1] at hl2
      dsimp only at hl2
      rw [ef] at hl2
      injection hl2 with g1 g2
      subst g2
      obtain ⟨h2, b1, b2⟩ := a8 f1 t e1
      refine ⟨h2, b1, fun h5 => ?_⟩
      rw [b2 h5, g1, beq_false_of_ne (by omega), Bool.or_false]
