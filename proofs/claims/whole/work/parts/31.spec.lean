/-! WHAT AN HOUR DOES, told once; the class's functions against it -/
/-- a plan: W, H, FIGURES, STEPS, ways, how many LIGHTS, LIGHTS, dull below, the rules' codes with their lengths -/
abbrev Pl : Type := Nat × Nat × Nat × (Nat → Int32) × (Nat → Int32) × Nat × (Nat → Int32) × Int32 × Nat × (Nat → Int32) × Nat × (Nat → Int32)
abbrev qW (P : Pl) : Nat := P.1
abbrev qH (P : Pl) : Nat := P.2.1
abbrev qF (P : Pl) : Nat := P.2.2.1
abbrev qSt (P : Pl) : Nat → Int32 := P.2.2.2.1
abbrev qWy (P : Pl) : Nat → Int32 := P.2.2.2.2.1
abbrev qNl (P : Pl) : Nat := P.2.2.2.2.2.1
abbrev qLt (P : Pl) : Nat → Int32 := P.2.2.2.2.2.2.1
abbrev qDb (P : Pl) : Int32 := P.2.2.2.2.2.2.2.1
abbrev qGn (P : Pl) : Nat := P.2.2.2.2.2.2.2.2.1
abbrev qGc (P : Pl) : Nat → Int32 := P.2.2.2.2.2.2.2.2.2.1
abbrev qHn (P : Pl) : Nat := P.2.2.2.2.2.2.2.2.2.2.1
abbrev qHc (P : Pl) : Nat → Int32 := P.2.2.2.2.2.2.2.2.2.2.2
def sLight (P : Pl) (hr : Nat) : Int32 := if qNl P = 0 then 5 else qLt P (hr % qNl P)
def sDull (P : Pl) (hr : Nat) : Bool := decide (sLight P hr < qDb P)
def sStep (P : Pl) (f pl : Nat) : Int32 := qWy P (f * 8 + pl % (qSt P f).toNatClampNeg)
def sBeside (W H c : Nat) (s : Int32) : Option Nat := if s = 0 then some c else if s = 1 then (if c < W then none else some (c - W)) else if s = 2 then (if c % W + 1 < W then some (c + 1) else none) else if s = 3 then (if c + W < W * H then some (c + W) else none) else (if 0 < c % W then some (c - 1) else none)
def enc (o : Option Nat) : Int32 := match o with
  | some c => nI c
  | none => -1
def sWith (F : Nat) (cell : Nat → Int32) (f : Nat) : Nat := fb_ct (fun g => cell g == cell f) F - 1
/-- the values of a rule, as the class orders them -/
def sVals (P : Pl) (hr ld : Nat) (cell sore held : Nat → Int32) (f : Nat) : Nat → Int32 := fun v => if v = 0 then sore f else if v = 1 then sLight P hr else if v = 2 then nI (sWith (qF P) cell f) else if v = 3 then nI hr else if v = 4 then sStep P f (hr + ld) else held f
noncomputable def rJoin (it a b : Int32) : Int32 := (f_X5_join it a b).getD 0
noncomputable def rItem (vals : Nat → Int32) (it : Int32) (s : List Int32) : List Int32 :=
  if it < -6 then (if it = -13 then (match s with
      | a :: r => (if a = 0 then 1 else 0) :: r
      | [] => [])
    else match s with
      | b :: a :: r => rJoin it a b :: r
      | s => s)
  else (if it < 0 then vals ((-1 : Int32) - it).toNatClampNeg else it) :: s
noncomputable def rRun (vals code : Nat → Int32) : Nat → List Int32
  | 0 => []
  | k + 1 => rItem vals (code k) (rRun vals code k)
noncomputable def rVal (vals code : Nat → Int32) (n : Nat) : Int32 := (rRun vals code n).headD 0
/-- how many numbers lie on the pile -/
def rDep (code : Nat → Int32) : Nat → Nat
  | 0 => 0
  | k + 1 => if code k < -6 then (if code k = -13 then rDep code k else rDep code k - 1) else rDep code k + 1
/-- a rule's code is a whole one -/
def rOk (code : Nat → Int32) (n : Nat) : Prop := n ≤ 700 ∧ (0 < n → rDep code n = 1) ∧ ∀ k, k < n → (code k < -6 → (code k = -13 → 1 ≤ rDep code k) ∧ (¬ code k = -13 → 2 ≤ rDep code k)) ∧ (¬ code k < -6 → rDep code k < 48)
noncomputable def sWants (P : Pl) (hr ld : Nat) (cell sore held : Nat → Int32) (f : Nat) : Bool := if qGn P = 0 then decide (sore f < 10) else decide (0 < rVal (sVals P hr ld cell sore held f) (qGc P) (qGn P))
noncomputable def sHurt (P : Pl) (hr ld : Nat) (cell sore held : Nat → Int32) (f : Nat) : Int32 := if qHn P = 0 then 1 else (if (0 : Int32) < (if rVal (sVals P hr ld cell sore held f) (qHc P) (qHn P) < 9 then rVal (sVals P hr ld cell sore held f) (qHc P) (qHn P) else 9) then (if rVal (sVals P hr ld cell sore held f) (qHc P) (qHn P) < 9 then rVal (sVals P hr ld cell sore held f) (qHc P) (qHn P) else 9) else 0)
def sGo (P : Pl) (wl hr ld : Nat) (cell : Nat → Int32) (f : Nat) : Nat → Int32 := match sBeside (qW P) (qH P) (cell f).toNatClampNeg (sStep P f (hr + ld)) with
  | some c => if wl.testBit c then cell else upd cell f (nI c)
  | none => cell
/-- one figure in an hour: cells, sore -/
noncomputable def sFig (P : Pl) (wl hr : Nat) (ld : Nat → Nat) (dl : Bool) (held : Nat → Int32) (f : Nat) (s : (Nat → Int32) × (Nat → Int32)) : (Nat → Int32) × (Nat → Int32) :=
  if held f ≤ 0 ∨ dl = true then (if sWants P hr (ld f) s.1 s.2 held f = true then (sGo P wl hr (ld f) s.1 f, s.2) else s)
  else (s.1, upd s.2 f (if s.2 f + sHurt P hr (ld f) s.1 s.2 held f < 99 then s.2 f + sHurt P hr (ld f) s.1 s.2 held f else 99))
noncomputable def sFigs (P : Pl) (wl hr : Nat) (ld : Nat → Nat) (dl : Bool) (held : Nat → Int32) (s : (Nat → Int32) × (Nat → Int32)) : Nat → (Nat → Int32) × (Nat → Int32)
  | 0 => s
  | k + 1 => sFig P wl hr ld dl held k (sFigs P wl hr ld dl held s k)
def sDec (held : Nat → Int32) (n : Nat) : Nat → Int32 := fun f => if f < n then (if (0 : Int32) < held f - 1 then held f - 1 else 0) else held f
theorem c_lightOf {P : Pl} {hr : Nat} (hl : qNl P ≤ 8) (hh : hr < 2 ^ 31) : f_X3_lightOf (nI hr) (qLt P) (nI (qNl P)) = some (sLight P hr) := by
  unfold f_X3_lightOf sLight
  by_cases h : qNl P = 0
  · rw [h]; rfl
  · have h0 : 0 < qNl P := by omega
    have hm : hr % qNl P < qNl P := Nat.mod_lt _ h0
    rw [if_neg (nI_nle h0 (by omega)), if_neg h, znz_nI h0 (by omega), pk_rem hh h0 (by omega), zbnd_nI (by omega) (by decide), nI_clamp (by omega)]
theorem c_isDull {P : Pl} {hr : Nat} (hl : qNl P ≤ 8) (hh : hr < 2 ^ 31) : f_X3_isDull (nI hr) (qDb P) (qLt P) (nI (qNl P)) = some (b2 (sDull P hr)) := by
  unfold f_X3_isDull
  rw [c_lightOf hl hh]
  show (if qDb P ≤ sLight P hr then some (0 : Int32) else some 1) = _
  rw [b2_iten]
  unfold sDull
  by_cases h : sLight P hr < qDb P
  · have : ¬ qDb P ≤ sLight P hr := by rw [fa_le]; rw [fa_lt] at h; omega
    simp [h, this]
  · have : qDb P ≤ sLight P hr := fa_of_nlt h
    simp [h, this]
theorem sWith_pos {F f : Nat} {cell : Nat → Int32} (hf : f < F) : 0 < fb_ct (fun g => cell g == cell f) F := fb_ct_pos.mpr ⟨f, hf, by simp⟩
theorem c_othersWith {F f : Nat} {cell : Nat → Int32} (hF : F ≤ 8) (hf : f < F) : f_X8_othersWith (nI f) cell (nI F) = some (nI (sWith F cell f)) := by
  unfold f_X8_othersWith
  refine (zl_run (s := fun k => (nI (fb_ct (fun g => cell g == cell f) k) - 1, nI k)) (b := nI (fb_ct (fun g => cell g == cell f) F) - 1) F (by omega) rfl ?_ ?_).trans ?_
  · intro k hk
    show (if nI F ≤ nI k then _ else _) = _
    rw [if_neg (nI_ge hk (by omega)), zbnd_nI (by omega) (by decide), zbnd_nI (by omega) (by decide), nI_clamp (by omega), nI_clamp (by omega), b2_ite]
    show some (Sum.inl (nI (fb_ct _ k) - 1 + b2 (decide (cell k = cell f)), nI k + 1)) = some (Sum.inl (nI (fb_ct _ (k + 1)) - 1, nI (k + 1)))
    rw [nI_1, fb_ct_succ]
    by_cases h : cell k = cell f
    · simp only [h, decide_true, beq_self_eq_true, if_true, ← nI_add]
      congr 3
      show nI _ - 1 + 1 = nI _ + nI 1 - 1
      have : nI 1 = (1 : Int32) := rfl
      rw [this, Int32.sub_add_cancel, Int32.add_sub_cancel]
    · have h2 : (cell k == cell f) = false := by simp [h]
      simp only [h, decide_false, h2, b2_f, Nat.add_zero, Int32.add_zero]
      rfl
  · show (if nI F ≤ nI F then _ else _) = _
    rw [if_pos (nI_le (Nat.le_refl _) (by omega))]
  · show some _ = some _
    rw [nI_m1 _ (sWith_pos hf)]
    rfl
theorem c_stepOf {P : Pl} {f pl s : Nat} (hf : f < 8) (hs : qSt P f = nI s) (h0 : 0 < s) (h8 : s ≤ 8) (hp : pl < 2 ^ 31) : f_X3_stepOf (nI f) (nI pl) (qSt P) (qWy P) = some (sStep P f pl) := by
  unfold f_X3_stepOf sStep
  have hm : pl % s < s := Nat.mod_lt _ h0
  rw [zbnd_nI hf (by decide), nI_clamp (by omega), hs, if_neg (nI_nle h0 (by omega)), znz_nI h0 (by omega), pk_rem hp h0 (by omega), show (8 : Int32) = nI 8 from rfl, pk_mul, nI_add, zbnd_nI (by omega) (by decide), nI_clamp (by omega), nI_clamp (by omega)]
