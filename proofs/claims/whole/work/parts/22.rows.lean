abbrev zE : Type := Nat × Option Nat × (Nat → Int32)
abbrev zF : Type := Nat × Option Nat × (Nat → Int64)
/-- a run's heap: the numbers I and J, L and K laid over them -/
def zS (p q : Nat) (I : pI) (L : List zE) (J : pJ) (K : List zF) : pS := pm_st 108 (shp p q) (zov I L) (zov J K)
theorem zlt {a b : Nat} (h : Nat.blt a b = true) : a < b := by
  simpa [Nat.blt_eq] using h
theorem zle {a b : Nat} (h : Nat.ble a b = true) : a ≤ b := Nat.le_of_ble_eq_true h
/-- no long number lies there -/
def znl (v : Option Value) : Bool := match v with
  | some w => Nat.beq w.category 1
  | none => true
theorem znl_set {ls : pL} {i : Nat} {v : Value} (hv : v.category = 1) (h : znl (pm_get ls i) = true) : pm_set ls (i + 1) v = ls.set (i + 1) (some v) := by
  have h2 : ¬ v.category = 2 := by rw [hv]; decide
  unfold pm_set
  rw [if_neg h2]
  have : pm_clr ls (i + 1) = ls := by
    show (match pm_get ls i with | some w => if w.category = 2 then ls.set i none else ls | none => ls) = ls
    revert h
    cases pm_get ls i with
    | none => intro _; rfl
    | some w =>
      intro h
      have : w.category = 1 := Nat.eq_of_beq_eq_true h
      have h3 : ¬ w.category = 2 := by rw [this]; decide
      show (if w.category = 2 then ls.set i none else ls) = ls
      rw [if_neg h3]
  rw [this]
theorem znl_set2 {ls : pL} {i : Nat} {v : Value} (hv : v.category = 2) (h : znl (pm_get ls i) = true) : pm_set ls (i + 1) v = (ls.set (i + 1) (some v)).set (i + 2) none := by
  unfold pm_set
  rw [if_pos hv]
  have : pm_clr ls (i + 1) = ls := by
    show (match pm_get ls i with | some w => if w.category = 2 then ls.set i none else ls | none => ls) = ls
    revert h
    cases pm_get ls i with
    | none => intro _; rfl
    | some w =>
      intro h
      have : w.category = 1 := Nat.eq_of_beq_eq_true h
      have h3 : ¬ w.category = 2 := by rw [this]; decide
      show (if w.category = 2 then ls.set i none else ls) = ls
      rw [if_neg h3]
  rw [this]
/-- the other cells don't know which plan is in use -/
theorem shp_ne {p q b r c : Nat} (h : ¬ c = 0) : shp p q c = shp b r c := by
  unfold shp
  have e0 : ∀ n, (shl_0 p q).getD (n + 1) (.inr (0, 0)) = (shl_0 b r).getD (n + 1) (.inr (0, 0)) := fun n => rfl
  have e1 : shl_1 p q = shl_1 b r := rfl
  have e2 : shl_2 p q = shl_2 b r := rfl
  have e3 : shl_3 p q = shl_3 b r := rfl
  obtain ⟨n, rfl⟩ : ∃ n, c = n + 1 := ⟨c - 1, by omega⟩
  rw [e0, e1, e2, e3]
theorem zft_11_4 : pm_ft 11 4 = some (.object "TownTable$Plan", false) := by decide +kernel
theorem zft_11_5 : pm_ft 11 5 = some (.object "TownTable$Plan", false) := by decide +kernel
/-- where a switch goes -/
def zsw (x lo hi : Int) (pc : Nat) (d : Int) (os : Array Int) : Option Nat := if x < lo ∨ hi < x then (if 0 ≤ (pc : Int) + d then some ((pc : Int) + d).toNat else none) else match os[(x - lo).toNat]? with
  | some o => if 0 ≤ (pc : Int) + o then some ((pc : Int) + o).toNat else none
  | none => none
theorem zsw_ok {x lo hi : Int} {pc : Nat} {d : Int} {os : Array Int} {t : Nat} {f : Nat → Prop} (h : zsw x lo hi pc d os = some t) (k : f t) : pm_sw x lo hi pc d os f := by
  unfold zsw at h
  unfold pm_sw
  by_cases hx : x < lo ∨ hi < x
  · rw [if_pos hx] at h ⊢
    by_cases h0 : 0 ≤ (pc : Int) + d
    · rw [if_pos h0] at h
      injection h with h
      rw [h]
      exact ⟨h0, k⟩
    · rw [if_neg h0] at h; cases h
  · rw [if_neg hx] at h ⊢
    revert h
    cases os[(x - lo).toNat]? with
    | none => intro h; cases h
    | some o =>
      intro h
      dsimp only at h
      by_cases h0 : 0 ≤ (pc : Int) + o
      · rw [if_pos h0] at h
        injection h with h
        show 0 ≤ (pc : Int) + o ∧ f ((pc : Int) + o).toNat
        rw [h]
        exact ⟨h0, k⟩
      · rw [if_neg h0] at h; cases h
/-- every place of a switch that isn't told goes where the rest goes -/
def zswc (lo hi : Int) (os : Array Int) (d : Int) (told : List Int32) : Bool := decide ((os.size : Int) = hi - lo + 1) && (List.range os.size).all (fun k => os[k]? == some d || told.any (fun v => v.toInt == lo + k))
theorem zsw_df {x : Int32} {lo hi : Int} {pc : Nat} {d : Int} {os : Array Int} {told : List Int32} {t : Nat} (hc : zswc lo hi os d told = true) (h0 : 0 ≤ (pc : Int) + d) (ht : ((pc : Int) + d).toNat = t) (hn : ∀ v ∈ told, ¬ x = v) : zsw x.toInt lo hi pc d os = some t := by
  unfold zswc at hc
  simp only [Bool.and_eq_true, decide_eq_true_eq, List.all_eq_true, List.mem_range] at hc
  obtain ⟨hsz, hall⟩ := hc
  unfold zsw
  by_cases hx : x.toInt < lo ∨ hi < x.toInt
  · rw [if_pos hx, if_pos h0, ht]
  · rw [if_neg hx]
    have hk : (x.toInt - lo).toNat < os.size := by omega
    have := hall _ hk
    simp only [Bool.or_eq_true, beq_iff_eq, List.any_eq_true] at this
    rcases this with h | ⟨v, hv, he⟩
    · rw [h]
      dsimp only
      rw [if_pos h0, ht]
    · exfalso
      refine hn v hv ?_
      have h2 : v.toInt = x.toInt := by omega
      exact (Int32.toInt_inj.mp h2).symm
section ZR
variable {C : pC} {d : Nat} {call : pCall} {cost : Nat → Nat × Nat × Bool × Bool} {ak : Bool × Bool} {nxe mc ms : Nat} {Q : pQ} {pc tg pc' : Nat} {ls ls1 : pL} {st st' r : List Value} {uc us : Nat} {p q : Nat} {I : pI} {L L' : List zE} {J : pJ} {K K' : List zF}
theorem z_getI {i a ci kf : Nat} {fs : List (Option (Option Nat))} {v : Int32} (hc : ∀ j as S (Q Q' : pQ), (∀ o S, Q o S → Q' o S) → call j as S Q → call j as S Q') (hpc : pc_in C pc = some (.getfield i, tg)) (hf : pc_fl C i = some (ci, kf)) (ha : Nat.blt a 108 = true) (hs : shp p q a = .inl (ci, fs)) (hk : fs[kf]? = some none) (hv : zov I L a kf = v) (hp : pc + 3 = pc') (k : pm_ev C d call cost ak nxe mc ms Q pc' ls (.int v :: st) uc us (zS p q I L J K)) : pm_ev C d call cost ak nxe mc ms Q pc ls (.ref a :: st) uc us (zS p q I L J K) :=
  t_getI hc hpc hf (zlt ha) hs hk hp (by rw [hv]; exact k)
theorem z_getJ {i a ci kf : Nat} {fs : List (Option (Option Nat))} {v : Int64} (hc : ∀ j as S (Q Q' : pQ), (∀ o S, Q o S → Q' o S) → call j as S Q → call j as S Q') (hpc : pc_in C pc = some (.getfield i, tg)) (hf : pc_fl C i = some (ci, kf)) (ha : Nat.blt a 108 = true) (hs : shp p q a = .inl (ci, fs)) (hk : fs[kf]? = some (some none)) (hv : zov J K a kf = v) (hp : pc + 3 = pc') (k : pm_ev C d call cost ak nxe mc ms Q pc' ls (.long v :: st) uc us (zS p q I L J K)) : pm_ev C d call cost ak nxe mc ms Q pc ls (.ref a :: st) uc us (zS p q I L J K) :=
  t_getJ hc hpc hf (zlt ha) hs hk hp (by rw [hv]; exact k)
theorem z_getR {i a ci kf : Nat} {fs : List (Option (Option Nat))} {b : Nat} (hc : ∀ j as S (Q Q' : pQ), (∀ o S, Q o S → Q' o S) → call j as S Q → call j as S Q') (hpc : pc_in C pc = some (.getfield i, tg)) (hf : pc_fl C i = some (ci, kf)) (ha : Nat.blt a 108 = true) (hs : shp p q a = .inl (ci, fs)) (hk : fs[kf]? = some (some (some b))) (hp : pc + 3 = pc') (k : pm_ev C d call cost ak nxe mc ms Q pc' ls (.ref b :: st) uc us (zS p q I L J K)) : pm_ev C d call cost ak nxe mc ms Q pc ls (.ref a :: st) uc us (zS p q I L J K) :=
  t_getR hc hpc hf (zlt ha) hs hk hp k
theorem z_putI {i a ci kf : Nat} {fs : List (Option (Option Nat))} {v : Int32} {ty : FieldType} {fin : Bool} (hc : ∀ j as S (Q Q' : pQ), (∀ o S, Q o S → Q' o S) → call j as S Q → call j as S Q') (hpc : pc_in C pc = some (.putfield i, tg)) (hf : pc_fl C i = some (ci, kf)) (ha : Nat.blt a 108 = true) (hs : shp p q a = .inl (ci, fs)) (hk : fs[kf]? = some none) (ht : pm_ft ci kf = some (ty, fin)) (hfit : pm_fit ty (.int v) = true) (hfin : fin = true → pc_ini C = true) (hb : zhs L a kf = true) (hL : zss L a kf v = L') (hp : pc + 3 = pc') (k : pm_ev C d call cost ak nxe mc ms Q pc' ls (st) uc us (zS p q I L' J K)) : pm_ev C d call cost ak nxe mc ms Q pc ls (.int v :: .ref a :: st) uc us (zS p q I L J K) :=
  t_putI hc hpc hf (zlt ha) hs hk ht hfit hfin hp (by
    have e : upI (zov I L) a kf v = zov I L' := by rw [← hL, ← zss_ok hb]; rfl
    rw [e]; exact k)
theorem z_putJ {i a ci kf : Nat} {fs : List (Option (Option Nat))} {v : Int64} {fin : Bool} (hc : ∀ j as S (Q Q' : pQ), (∀ o S, Q o S → Q' o S) → call j as S Q → call j as S Q') (hpc : pc_in C pc = some (.putfield i, tg)) (hf : pc_fl C i = some (ci, kf)) (ha : Nat.blt a 108 = true) (hs : shp p q a = .inl (ci, fs)) (hk : fs[kf]? = some (some none)) (ht : pm_ft ci kf = some (.long, fin)) (hfin : fin = true → pc_ini C = true) (hb : zhs K a kf = true) (hL : zss K a kf v = K') (hp : pc + 3 = pc') (k : pm_ev C d call cost ak nxe mc ms Q pc' ls (st) uc us (zS p q I L J K')) : pm_ev C d call cost ak nxe mc ms Q pc ls (.long v :: .ref a :: st) uc us (zS p q I L J K) :=
  t_putJ hc hpc hf (zlt ha) hs hk ht hfin hp (by
    have e : upJ (zov J K) a kf v = zov J K' := by rw [← hL, ← zss_ok hb]; rfl
    rw [e]; exact k)
theorem z_iaload {a n : Nat} {i v : Int32} (hc : ∀ j as S (Q Q' : pQ), (∀ o S, Q o S → Q' o S) → call j as S Q → call j as S Q') (hpc : pc_in C pc = some (.iaload, tg)) (ha : Nat.blt a 108 = true) (hs : shp p q a = .inr (0, n)) (hi : ¬ (i < 0 ∨ n ≤ i.toNatClampNeg)) (hv : zov I L a i.toNatClampNeg = v) (hp : pc + 1 = pc') (k : pm_ev C d call cost ak nxe mc ms Q pc' ls (.int v :: st) uc us (zS p q I L J K)) : pm_ev C d call cost ak nxe mc ms Q pc ls (.int i :: .ref a :: st) uc us (zS p q I L J K) :=
  t_iaload hc hpc (zlt ha) hs hi hp (by rw [hv]; exact k)
theorem z_caload {a n : Nat} {i v : Int32} (hc : ∀ j as S (Q Q' : pQ), (∀ o S, Q o S → Q' o S) → call j as S Q → call j as S Q') (hpc : pc_in C pc = some (.caload, tg)) (ha : Nat.blt a 108 = true) (hs : shp p q a = .inr (2, n)) (hi : ¬ (i < 0 ∨ n ≤ i.toNatClampNeg)) (hv : zov I L a i.toNatClampNeg = v) (hp : pc + 1 = pc') (k : pm_ev C d call cost ak nxe mc ms Q pc' ls (.int v :: st) uc us (zS p q I L J K)) : pm_ev C d call cost ak nxe mc ms Q pc ls (.int i :: .ref a :: st) uc us (zS p q I L J K) :=
  t_caload hc hpc (zlt ha) hs hi hp (by rw [hv]; exact k)
theorem z_baload {a n : Nat} {i v : Int32} (hc : ∀ j as S (Q Q' : pQ), (∀ o S, Q o S → Q' o S) → call j as S Q → call j as S Q') (hpc : pc_in C pc = some (.baload, tg)) (ha : Nat.blt a 108 = true) (hs : shp p q a = .inr (3, n)) (hi : ¬ (i < 0 ∨ n ≤ i.toNatClampNeg)) (hv : zov I L a i.toNatClampNeg = v) (hp : pc + 1 = pc') (k : pm_ev C d call cost ak nxe mc ms Q pc' ls (.int v :: st) uc us (zS p q I L J K)) : pm_ev C d call cost ak nxe mc ms Q pc ls (.int i :: .ref a :: st) uc us (zS p q I L J K) :=
  t_baload hc hpc (zlt ha) hs hi hp (by rw [hv]; exact k)
theorem z_laload {a n : Nat} {i : Int32} {v : Int64} (hc : ∀ j as S (Q Q' : pQ), (∀ o S, Q o S → Q' o S) → call j as S Q → call j as S Q') (hpc : pc_in C pc = some (.laload, tg)) (ha : Nat.blt a 108 = true) (hs : shp p q a = .inr (1, n)) (hi : ¬ (i < 0 ∨ n ≤ i.toNatClampNeg)) (hv : zov J K a i.toNatClampNeg = v) (hp : pc + 1 = pc') (k : pm_ev C d call cost ak nxe mc ms Q pc' ls (.long v :: st) uc us (zS p q I L J K)) : pm_ev C d call cost ak nxe mc ms Q pc ls (.int i :: .ref a :: st) uc us (zS p q I L J K) :=
  t_laload hc hpc (zlt ha) hs hi hp (by rw [hv]; exact k)
theorem z_iastore {a n : Nat} {i x : Int32} {g : Nat → Int32} (hc : ∀ j as S (Q Q' : pQ), (∀ o S, Q o S → Q' o S) → call j as S Q → call j as S Q') (hpc : pc_in C pc = some (.iastore, tg)) (ha : Nat.blt a 108 = true) (hs : shp p q a = .inr (0, n)) (hi : ¬ (i < 0 ∨ n ≤ i.toNatClampNeg)) (hb : zha L a = true) (hg : zov I L a = g) (hL : zst L a (upd g i.toNatClampNeg x) = L') (hp : pc + 1 = pc') (k : pm_ev C d call cost ak nxe mc ms Q pc' ls (st) uc us (zS p q I L' J K)) : pm_ev C d call cost ak nxe mc ms Q pc ls (.int x :: .int i :: .ref a :: st) uc us (zS p q I L J K) :=
  t_iastore hc hpc (zlt ha) hs hi hp (by
    have e : upI (zov I L) a i.toNatClampNeg x = zov I L' := by rw [← hL, ← zst_ok hb, ← hg]; rfl
    rw [e]; exact k)
theorem z_castore {a n : Nat} {i x : Int32} {g : Nat → Int32} (hc : ∀ j as S (Q Q' : pQ), (∀ o S, Q o S → Q' o S) → call j as S Q → call j as S Q') (hpc : pc_in C pc = some (.castore, tg)) (ha : Nat.blt a 108 = true) (hs : shp p q a = .inr (2, n)) (hi : ¬ (i < 0 ∨ n ≤ i.toNatClampNeg)) (hb : zha L a = true) (hg : zov I L a = g) (hL : zst L a (upd g i.toNatClampNeg (vp_nar .char x)) = L') (hp : pc + 1 = pc') (k : pm_ev C d call cost ak nxe mc ms Q pc' ls (st) uc us (zS p q I L' J K)) : pm_ev C d call cost ak nxe mc ms Q pc ls (.int x :: .int i :: .ref a :: st) uc us (zS p q I L J K) :=
  t_castore hc hpc (zlt ha) hs hi hp (by
    have e : upI (zov I L) a i.toNatClampNeg (vp_nar .char x) = zov I L' := by rw [← hL, ← zst_ok hb, ← hg]; rfl
    rw [e]; exact k)
theorem z_bastore {a n : Nat} {i x : Int32} {g : Nat → Int32} (hc : ∀ j as S (Q Q' : pQ), (∀ o S, Q o S → Q' o S) → call j as S Q → call j as S Q') (hpc : pc_in C pc = some (.bastore, tg)) (ha : Nat.blt a 108 = true) (hs : shp p q a = .inr (3, n)) (hi : ¬ (i < 0 ∨ n ≤ i.toNatClampNeg)) (hb : zha L a = true) (hg : zov I L a = g) (hL : zst L a (upd g i.toNatClampNeg (vp_nar .boolean x)) = L') (hp : pc + 1 = pc') (k : pm_ev C d call cost ak nxe mc ms Q pc' ls (st) uc us (zS p q I L' J K)) : pm_ev C d call cost ak nxe mc ms Q pc ls (.int x :: .int i :: .ref a :: st) uc us (zS p q I L J K) :=
  t_bastore hc hpc (zlt ha) hs hi hp (by
    have e : upI (zov I L) a i.toNatClampNeg (vp_nar .boolean x) = zov I L' := by rw [← hL, ← zst_ok hb, ← hg]; rfl
    rw [e]; exact k)
theorem z_lastore {a n : Nat} {i : Int32} {x : Int64} {g : Nat → Int64} (hc : ∀ j as S (Q Q' : pQ), (∀ o S, Q o S → Q' o S) → call j as S Q → call j as S Q') (hpc : pc_in C pc = some (.lastore, tg)) (ha : Nat.blt a 108 = true) (hs : shp p q a = .inr (1, n)) (hi : ¬ (i < 0 ∨ n ≤ i.toNatClampNeg)) (hb : zha K a = true) (hg : zov J K a = g) (hL : zst K a (vp_updL g i.toNatClampNeg x) = K') (hp : pc + 1 = pc') (k : pm_ev C d call cost ak nxe mc ms Q pc' ls (st) uc us (zS p q I L J K')) : pm_ev C d call cost ak nxe mc ms Q pc ls (.long x :: .int i :: .ref a :: st) uc us (zS p q I L J K) :=
  t_lastore hc hpc (zlt ha) hs hi hp (by
    have e : upJ (zov J K) a i.toNatClampNeg x = zov J K' := by rw [← hL, ← zst_ok hb, ← hg]; rfl
    rw [e]; exact k)
theorem z_alen {a n kd : Nat} {v : Int32} (hc : ∀ j as S (Q Q' : pQ), (∀ o S, Q o S → Q' o S) → call j as S Q → call j as S Q') (hpc : pc_in C pc = some (.arraylength, tg)) (ha : Nat.blt a 108 = true) (hs : shp p q a = .inr (kd, n)) (hk : kd < 4 ∧ kd ≠ 1) (hv : Int32.ofNat n = v) (hp : pc + 1 = pc') (k : pm_ev C d call cost ak nxe mc ms Q pc' ls (.int v :: st) uc us (zS p q I L J K)) : pm_ev C d call cost ak nxe mc ms Q pc ls (.ref a :: st) uc us (zS p q I L J K) :=
  g_arraylength hc hpc (zlt ha) (st_a hs hk.2) hk hp (by rw [hv]; exact k)
theorem z_acpy {i z0 z1 z2 a b n0 n1 : Nat} {n dp sp : Int32} {f g : Nat → Int32} (hc : ∀ j as S (Q Q' : pQ), (∀ o S, Q o S → Q' o S) → call j as S Q → call j as S Q') (hpc : pc_in C pc = some (.invokestatic i, tg)) (hm : pc_ml C i = some (4, z0, z1, z2)) (hd : 3 ≤ d) (ha : Nat.blt a 108 = true) (hsa : shp p q a = .inr (0, n0)) (hb : Nat.blt b 108 = true) (hsb : shp p q b = .inr (0, n1)) (hg : ¬ sp < 0 ∧ ¬ dp < 0 ∧ ¬ n < 0 ∧ sp.toNatClampNeg + n.toNatClampNeg ≤ n0 ∧ dp.toNatClampNeg + n.toNatClampNeg ≤ n1) (hr : Nat.ble st.length 4 = true) (hh : zha L b = true) (hfa : zov I L a = f) (hfb : zov I L b = g) (hL : zst L b (va_cpy f g sp.toNatClampNeg dp.toNatClampNeg n.toNatClampNeg) = L') (hp : pc + 3 = pc') (k : pm_ev C d call cost ak nxe mc ms Q pc' ls st uc us (zS p q I L' J K)) : pm_ev C d call cost ak nxe mc ms Q pc ls (.int n :: .int dp :: .ref b :: .int sp :: .ref a :: st) uc us (zS p q I L J K) := by
  refine pm_go hc ?_
  unfold pm_step
  rw [hpc]
  subst hp
  dsimp only
  rw [hm]
  refine ⟨hd, ⟨zlt ha, ?_⟩⟩
  have e1 : (zS p q I L J K).2 a = .inl (0, n0, .inl (zov I L a)) := st_a hsa (by decide)
  have e2 : (zS p q I L J K).2 b = .inl (0, n1, .inl (zov I L b)) := st_a hsb (by decide)
  rw [e1]
  refine ⟨rfl, zlt hb, ?_⟩
  rw [e2]
  refine ⟨rfl, hg.1, hg.2.1, hg.2.2.1, hg.2.2.2.1, hg.2.2.2.2, zle hr, ?_⟩
  have e : pm_up (zS p q I L J K) b (.inl (0, n1, .inl (va_cpy (zov I L a) (zov I L b) sp.toNatClampNeg dp.toNatClampNeg n.toNatClampNeg))) = zS p q I L' J K := by
    have e3 : (fun c => if c = b then va_cpy f g sp.toNatClampNeg dp.toNatClampNeg n.toNatClampNeg else zov I L c) = zov I L' := by rw [← hL]; exact zst_ok hh
    refine st_up ?_ ?_ (fun _ _ => rfl)
    · rw [st_a hsb (by decide), ← e3, hfa, hfb]; simp
    · intro c hc; rw [← e3]; exact if_neg hc
  rw [e]; exact k
theorem z_max {i z0 z1 z2 : Nat} {x y : Int32} {S : pS} (hc : ∀ j as S (Q Q' : pQ), (∀ o S, Q o S → Q' o S) → call j as S Q → call j as S Q') (hpc : pc_in C pc = some (.invokestatic i, tg)) (hm : pc_ml C i = some (7, z0, z1, z2)) (hd : 2 ≤ d) (hr : Nat.ble st.length 4 = true) (hp : pc + 3 = pc') (k : pm_ev C d call cost ak nxe mc ms Q pc' ls (.int (if x < y then y else x) :: st) uc us S) : pm_ev C d call cost ak nxe mc ms Q pc ls (.int y :: .int x :: st) uc us S := by
  refine pm_go hc ?_
  unfold pm_step
  rw [hpc]
  subst hp
  dsimp only
  rw [hm]
  exact ⟨hd, zle hr, k⟩
theorem z_min {i z0 z1 z2 : Nat} {x y : Int32} {S : pS} (hc : ∀ j as S (Q Q' : pQ), (∀ o S, Q o S → Q' o S) → call j as S Q → call j as S Q') (hpc : pc_in C pc = some (.invokestatic i, tg)) (hm : pc_ml C i = some (8, z0, z1, z2)) (hd : 2 ≤ d) (hr : Nat.ble st.length 4 = true) (hp : pc + 3 = pc') (k : pm_ev C d call cost ak nxe mc ms Q pc' ls (.int (if y < x then y else x) :: st) uc us S) : pm_ev C d call cost ak nxe mc ms Q pc ls (.int y :: .int x :: st) uc us S := by
  refine pm_go hc ?_
  unfold pm_step
  rw [hpc]
  subst hp
  dsimp only
  rw [hm]
  exact ⟨hd, zle hr, k⟩
theorem z_throw {i : Nat} {E : String} {S : pS} (hc : ∀ j as S (Q Q' : pQ), (∀ o S, Q o S → Q' o S) → call j as S Q → call j as S Q') (hpc : pc_in C pc = some (.new i, tg)) (ht : pc_th C pc = some E) (hd : 7 ≤ d) (hr : Nat.ble st.length 4 = true) (hm : Nat.ble (uc + 1) mc = true) (hs : Nat.ble (us + 6) ms = true) (k : Q (.inr E) S) : pm_ev C d call cost ak nxe mc ms Q pc ls st uc us S := by
  refine pm_go hc ?_
  unfold pm_step
  rw [hpc]
  dsimp only
  rw [ht]
  exact ⟨hd, zle hr, zle hm, zle hs, k⟩
theorem z_switch {df lo hi : Int} {os : Array Int} {x : Int32} {S : pS} (hc : ∀ j as S (Q Q' : pQ), (∀ o S, Q o S → Q' o S) → call j as S Q → call j as S Q') (hpc : pc_in C pc = some (.tableswitch df lo hi os, tg)) (ht : zsw x.toInt lo hi pc df os = some pc') (k : pm_ev C d call cost ak nxe mc ms Q pc' ls st uc us S) : pm_ev C d call cost ak nxe mc ms Q pc ls (.int x :: st) uc us S := by
  refine pm_go hc ?_
  unfold pm_step
  rw [hpc]
  exact zsw_ok (f := fun t => pm_ev C d call cost ak nxe mc ms Q t ls st uc us S) ht k
theorem z_inv {j x y : Nat} {as : List Value} {S : pS} {k' : pF} (hco : cost j = (x, y, false, false)) (hr : Nat.ble r.length 4 = true) (hx : Nat.ble x mc = true) (hy : Nat.ble y ms = true) (k : call j as S (pm_po C cost ak Q k' pc ls j r 0 0)) : pm_inv C call cost ak nxe mc ms Q k' pc ls j as r 0 0 S := by
  unfold pm_inv
  rw [hco]
  exact ⟨zle hr, by simpa using zle hx, by simpa using zle hy, (fun h => by cases h), k⟩
theorem z_po {j x y : Nat} {v : Option Value} {LY : List zE} {KY : List zF} (hco : cost j = (x, y, false, false)) (hst : v.toList ++ r = st') (hp : pc + 3 = pc') (hb : zhm L LY = true) (hs : zsrt LY = true) (hL : zmr L LY = L') (hbJ : zhm K KY = true) (hsJ : zsrt KY = true) (hK : zmr K KY = K') (k : pm_ev C d call cost ak nxe mc ms Q pc' ls st' 0 0 (zS p q I L' J K')) : pm_po C cost ak Q (pm_ev C d call cost ak nxe mc ms Q) pc ls j r 0 0 (.inl v) (zS p q (zov I L) LY (zov J K) KY) := by
  have e1 := zmr_ok (I := I) hb hs
  have e2 := zmr_ok (I := J) hbJ hsJ
  rw [hL] at e1
  rw [hK] at e2
  subst hst
  subst hp
  show pm_ev C d call cost ak nxe mc ms Q (pc + 3) ls (v.toList ++ r) (pm_nu (cost j).2.2.2 0 (cost j).1) (pm_nu (cost j).2.2.2 0 (cost j).2.1) _
  rw [hco]
  unfold zS
  rw [e1, e2]
  exact k
/-- what is thrown goes on to the caller -/
theorem z_pox {j : Nat} {E : String} {LY : List zE} {KY : List zF} (hh : pc_hd C pc E = some none) (hb : zhm L LY = true) (hs : zsrt LY = true) (hL : zmr L LY = L') (hbJ : zhm K KY = true) (hsJ : zsrt KY = true) (hK : zmr K KY = K') (k : Q (.inr E) (zS p q I L' J K')) : pm_po C cost ak Q (pm_ev C d call cost ak nxe mc ms Q) pc ls j r 0 0 (.inr E) (zS p q (zov I L) LY (zov J K) KY) := by
  have e1 := zmr_ok (I := I) hb hs
  have e2 := zmr_ok (I := J) hbJ hsJ
  rw [hL] at e1
  rw [hK] at e2
  unfold pm_po
  dsimp only
  rw [hh]
  unfold zS
  rw [e1, e2]
  exact k
/-- what is thrown is caught here, and answered -/
theorem z_poh {j : Nat} {E : String} {x : Int32} {LY : List zE} {KY : List zF} (hh : pc_hd C pc E = some (some x)) (hk : ak.2 = true) (hr : pc_rt C = some .int) (hb : zhm L LY = true) (hs : zsrt LY = true) (hL : zmr L LY = L') (hbJ : zhm K KY = true) (hsJ : zsrt KY = true) (hK : zmr K KY = K') (k : Q (.inl (some (.int x))) (zS p q I L' J K')) : pm_po C cost ak Q (pm_ev C d call cost ak nxe mc ms Q) pc ls j r 0 0 (.inr E) (zS p q (zov I L) LY (zov J K) KY) := by
  have e1 := zmr_ok (I := I) hb hs
  have e2 := zmr_ok (I := J) hbJ hsJ
  rw [hL] at e1
  rw [hK] at e2
  unfold pm_po
  dsimp only
  rw [hh]
  refine ⟨hk, hr, ?_⟩
  unfold zS
  rw [e1, e2]
  exact k
theorem z_stat {i j n z x y : Nat} {as : List Value} {S : pS} (hc : ∀ j as S (Q Q' : pQ), (∀ o S, Q o S → Q' o S) → call j as S Q → call j as S Q') (hpc : pc_in C pc = some (.invokestatic i, tg)) (hm : pc_ml C i = some (0, j, n, z)) (hn : as.length = n) (hst : as.reverse ++ r = st) (hco : cost j = (x, y, false, false)) (hr : Nat.ble r.length 4 = true) (hx : Nat.ble x mc = true) (hy : Nat.ble y ms = true) (k : call j as S (pm_po C cost ak Q (pm_ev C d call cost ak nxe mc ms Q) pc ls j r 0 0)) : pm_ev C d call cost ak nxe mc ms Q pc ls st 0 0 S := by
  subst hst
  exact g_static hc hpc hm hn (z_inv hco hr hx hy k)
theorem z_help {i j n z x y : Nat} {ka : Bool} {as : List Value} {S : pS} (hc : ∀ j as S (Q Q' : pQ), (∀ o S, Q o S → Q' o S) → call j as S Q → call j as S Q') (hpc : pc_in C pc = some (.invokestatic i, tg)) (hm : pc_ml C i = some (9, j, n, z)) (hn : as.length = n) (hst : as.reverse ++ r = st) (hco : cost j = (x, y, false, ka)) (hr : Nat.ble r.length 4 = true) (hx : uc + x ≤ mc) (hy : us + y ≤ ms) (k : call j as S (pm_po C cost ak Q (pm_ev C d call cost ak nxe mc ms Q) pc ls j r uc us)) : pm_ev C d call cost ak nxe mc ms Q pc ls st uc us S := by
  subst hst
  refine g_helper hc hpc hm hn ?_
  unfold pm_inv
  rw [hco]
  exact ⟨zle hr, hx, hy, (fun h => by cases h), k⟩
theorem z_virt {i j n ci a x y : Nat} {fs : List (Option (Option Nat))} {as : List Value} (hc : ∀ j as S (Q Q' : pQ), (∀ o S, Q o S → Q' o S) → call j as S Q → call j as S Q') (hpc : pc_in C pc = some (.invokevirtual i, tg)) (hm : pc_ml C i = some (1, j, n, ci)) (hn : as.length = n) (ha : Nat.blt a 108 = true) (hs : shp p q a = .inl (ci, fs)) (hst : as.reverse ++ .ref a :: r = st) (hco : cost j = (x, y, false, false)) (hr : Nat.ble r.length 4 = true) (hx : Nat.ble x mc = true) (hy : Nat.ble y ms = true) (k : call j (.ref a :: as) (zS p q I L J K) (pm_po C cost ak Q (pm_ev C d call cost ak nxe mc ms Q) pc ls j r 0 0)) : pm_ev C d call cost ak nxe mc ms Q pc ls st 0 0 (zS p q I L J K) := by
  subst hst
  exact g_virtual hc hpc hm hn (zlt ha) (st_o hs) (z_inv hco hr hx hy k)
theorem z_text {i j n z b x y : Nat} {as : List Value} {S : pS} (hc : ∀ j as S (Q Q' : pQ), (∀ o S, Q o S → Q' o S) → call j as S Q → call j as S Q') (hpc : pc_in C pc = some (.invokevirtual i, tg)) (hm : pc_ml C i = some (6, j, n, z)) (hn : as.length = n) (hb : b < 26) (hst : as.reverse ++ .retAddr b :: r = st) (hco : cost j = (x, y, false, false)) (hr : Nat.ble r.length 4 = true) (hx : Nat.ble x mc = true) (hy : Nat.ble y ms = true) (k : call j (.retAddr b :: as) S (pm_po C cost ak Q (pm_ev C d call cost ak nxe mc ms Q) pc ls j r 0 0)) : pm_ev C d call cost ak nxe mc ms Q pc ls st 0 0 S := by
  subst hst
  refine pm_go hc ?_
  unfold pm_step
  rw [hpc]
  dsimp only
  rw [hm]
  refine ⟨by simp [hn], ?_⟩
  rw [← hn]
  simp only [List.take_left', List.drop_left', List.length_reverse, List.reverse_reverse]
  exact ⟨hb, z_inv hco hr hx hy k⟩
end ZR
theorem z_putP {C : pC} {d : Nat} {call : pCall} {cost : Nat → Nat × Nat × Bool × Bool} {ak : Bool × Bool} {nxe mc ms : Nat} {Q : pQ} {pc tg pc' : Nat} {ls : pL} {st : List Value} {uc us : Nat} {p q : Nat} {I : pI} {L : List zE} {J : pJ} {K : List zF} {i b : Nat} (hc : ∀ j as S (Q Q' : pQ), (∀ o S, Q o S → Q' o S) → call j as S Q → call j as S Q') (hpc : pc_in C pc = some (.putfield i, tg)) (hf : pc_fl C i = some (11, 4)) (hp : pc + 3 = pc') (k : pm_ev C d call cost ak nxe mc ms Q pc' ls st uc us (zS b q I L J K)) : pm_ev C d call cost ak nxe mc ms Q pc ls (.ref b :: .ref 0 :: st) uc us (zS p q I L J K) := by
  refine g_putfield hc hpc hf (zlt rfl) (st_o sh_0) (by rw [fvl_len]; exact zlt rfl) zft_11_4 rfl (fun h => Bool.noConfusion h) hp ?_
  have e : pm_up (zS p q I L J K) 0 (.inr (11, (fvl (zov I L 0) (zov J K 0) 0 [some (some 1), some (some 3), none, some (some 6), some (some p), some (some q), some (some 31), some (some 36), none, some (some 41), some (some 46), some (some 51), some (some 53), some (some 58), some (some 61), some (some 65), some (some 72), some (some 73), some (some 74), none]).set 4 (.ref b))) = zS b q I L J K := by
    refine Prod.ext rfl ?_
    funext c
    by_cases hc : c = 0
    · subst hc; rfl
    · show va_up (zS p q I L J K).2 0 _ c = _
      have : va_up (zS p q I L J K).2 0 (.inr (11, (fvl (zov I L 0) (zov J K 0) 0 [some (some 1), some (some 3), none, some (some 6), some (some p), some (some q), some (some 31), some (some 36), none, some (some 41), some (some 46), some (some 51), some (some 53), some (some 58), some (some 61), some (some 65), some (some 72), some (some 73), some (some 74), none]).set 4 (.ref b))) c = (zS p q I L J K).2 c := by simp [va_up, hc]
      rw [this]
      unfold zS pm_st
      dsimp only
      rw [shp_ne hc]
  rw [e]; exact k
theorem z_putQ {C : pC} {d : Nat} {call : pCall} {cost : Nat → Nat × Nat × Bool × Bool} {ak : Bool × Bool} {nxe mc ms : Nat} {Q : pQ} {pc tg pc' : Nat} {ls : pL} {st : List Value} {uc us : Nat} {p q : Nat} {I : pI} {L : List zE} {J : pJ} {K : List zF} {i b : Nat} (hc : ∀ j as S (Q Q' : pQ), (∀ o S, Q o S → Q' o S) → call j as S Q → call j as S Q') (hpc : pc_in C pc = some (.putfield i, tg)) (hf : pc_fl C i = some (11, 5)) (hp : pc + 3 = pc') (k : pm_ev C d call cost ak nxe mc ms Q pc' ls st uc us (zS p b I L J K)) : pm_ev C d call cost ak nxe mc ms Q pc ls (.ref b :: .ref 0 :: st) uc us (zS p q I L J K) := by
  refine g_putfield hc hpc hf (zlt rfl) (st_o sh_0) (by rw [fvl_len]; exact zlt rfl) zft_11_5 rfl (fun h => Bool.noConfusion h) hp ?_
  have e : pm_up (zS p q I L J K) 0 (.inr (11, (fvl (zov I L 0) (zov J K 0) 0 [some (some 1), some (some 3), none, some (some 6), some (some p), some (some q), some (some 31), some (some 36), none, some (some 41), some (some 46), some (some 51), some (some 53), some (some 58), some (some 61), some (some 65), some (some 72), some (some 73), some (some 74), none]).set 5 (.ref b))) = zS p b I L J K := by
    refine Prod.ext rfl ?_
    funext c
    by_cases hc : c = 0
    · subst hc; rfl
    · show va_up (zS p q I L J K).2 0 _ c = _
      have : va_up (zS p q I L J K).2 0 (.inr (11, (fvl (zov I L 0) (zov J K 0) 0 [some (some 1), some (some 3), none, some (some 6), some (some p), some (some q), some (some 31), some (some 36), none, some (some 41), some (some 46), some (some 51), some (some 53), some (some 58), some (some 61), some (some 65), some (some 72), some (some 73), some (some 74), none]).set 5 (.ref b))) c = (zS p q I L J K).2 c := by simp [va_up, hc]
      rw [this]
      unfold zS pm_st
      dsimp only
      rw [shp_ne hc]
  rw [e]; exact k
/-- a method's body, from its call -/
theorem z_in {ext : pCall} {d j nL mc ms : Nat} {al ka : Bool} {as : List Value} {ls : pL} {C : pC} {p q : Nat} {I : pI} {L : List zE} {J : pJ} {K : List zF} {Q : pQ} (hM : M j = some (C, nL)) (hco : cost j = (mc, ms, al, ka)) (h1 : Nat.ble (as.flatMap pm_sl).length nL = true) (hls : pm_ent nL as = ls) (hI : zov I L = I) (hJ : zov J K = J) (h : pm_ev C (d + 1) (pm_call M cost ext d) cost (al, ka) 108 mc ms Q 0 ls [] 0 0 (zS p q I L J K)) : pm_call M cost ext (d + 1) j as (pm_st 108 (shp p q) I J) Q := by
  refine pm_in hM (zle h1) ?_
  rw [hco, hls]
  have e : pm_st 108 (shp p q) I J = zS p q I L J K := by unfold zS; rw [hI, hJ]
  rw [e]
  exact h
theorem zjn {α : Type} {o : Option α} {K G : α → Prop} {goal : Prop} (h : zwp o K) (h1 : ∀ a, K a → G a) (h2 : zwp o G → goal) : goal := h2 (zwp_mono h h1)
/-- goes on, or answers at once -/
def zbs {α ρ : Type} (o : Option (α ⊕ ρ)) (k : α → Option ρ) : Option ρ := match o with
  | some (.inl a) => k a
  | some (.inr r) => some r
  | none => none
theorem zjs {α ρ : Type} {o : Option (α ⊕ ρ)} {k : α → Option ρ} {Q : ρ → Prop} {G : α → Prop} {goal : Prop} (h : zwp (zbs o k) Q) (h1 : ∀ a, zwp (k a) Q → G a) (h2 : zwp o (fun r => Sum.elim G Q r) → goal) : goal := h2 (by
  cases o with
  | none => exact (zwn h).elim
  | some r => cases r with
    | inl a => exact zwi (h1 a h)
    | inr b =>
      have h3 : Q b := zws (show zwp (some b) Q from h)
      exact zwi h3)
theorem zwp_l {α β : Type} {a : α} {G : α → Prop} {K : β → Prop} (h : zwp (some (.inl a : α ⊕ β)) (fun r => Sum.elim G K r)) : G a := by
  rw [zwp_some] at h; exact h
theorem zwp_r {α β : Type} {b : β} {G : α → Prop} {K : β → Prop} (h : zwp (some (.inr b : α ⊕ β)) (fun r => Sum.elim G K r)) : K b := by
  rw [zwp_some] at h; exact h
theorem zd1 {k d : Nat} (h : k ≤ d) (hk : Nat.ble 1 k = true) : ∃ e, d = e + 1 := ⟨d - 1, by have := zle hk; omega⟩
theorem zdp {k d kY : Nat} (h : k ≤ d + 1) (hk : Nat.ble (kY + 1) k = true) : kY ≤ d := by have := zle hk; omega
theorem zdq {k d n : Nat} (h : k ≤ d) (hk : Nat.ble n k = true) : n ≤ d := Nat.le_trans (zle hk) h
theorem zhd1 {e pc : Nat} {E E1 : String} (h : Nat.blt pc e = true) (hE : E = E1) : hd_1 e E1 pc E = some (some 1) := if_pos ⟨zlt h, hE⟩
theorem zhd2a {e pc : Nat} {E : String} (h : Nat.blt pc e = true) (hE : E = x_N) : hd_2 e pc E = some (some 1) := by
  unfold hd_2
  rw [if_pos (zlt h), if_pos hE]
theorem zhd2b {e pc : Nat} {E : String} (h : Nat.blt pc e = true) (hN : ¬ E = x_N) (hE : E = x_I) : hd_2 e pc E = some (some 2) := by
  unfold hd_2
  rw [if_pos (zlt h), if_neg hN, if_pos hE]
theorem zne_n {x : Int32} : ∀ v ∈ ([] : List Int32), ¬ x = v := fun _ h => by cases h
theorem zne_c {x a : Int32} {l : List Int32} (h : ¬ x = a) (t : ∀ v ∈ l, ¬ x = v) : ∀ v ∈ a :: l, ¬ x = v := fun v hv => by
  rcases List.mem_cons.mp hv with e | e
  · rw [e]; exact h
  · exact t v e
