def pm_lk1 {α : Type} : List (Nat × α) → Nat → Option α
  | [], _ => none
  | (k, v) :: r, i => if k = i then some v else pm_lk1 r i
def pm_lk2 {α : Type} : List (Nat × List (Nat × α)) → Nat → Option α
  | [], _ => none
  | (b, c) :: r, i => if i < b then pm_lk1 c i else pm_lk2 r i
theorem pm_lk1_mem {α : Type} {l : List (Nat × α)} {i : Nat} {v : α} (h : pm_lk1 l i = some v) : (i, v) ∈ l := by
  induction l with
  | nil => cases h
  | cons q r ih =>
    obtain ⟨k, w⟩ := q
    unfold pm_lk1 at h
    split at h
    · rename_i hk
      subst hk
      cases h
      exact List.mem_cons_self
    · exact List.mem_cons_of_mem _ (ih h)
theorem pm_lk2_mem {α : Type} {l : List (Nat × List (Nat × α))} {i : Nat} {v : α} (h : pm_lk2 l i = some v) : ∃ q ∈ l, (i, v) ∈ q.2 := by
  induction l with
  | nil => cases h
  | cons q r ih =>
    obtain ⟨b, c⟩ := q
    unfold pm_lk2 at h
    split at h
    · exact ⟨(b, c), List.mem_cons_self, pm_lk1_mem h⟩
    · obtain ⟨q, h1, h2⟩ := ih h
      exact ⟨q, List.mem_cons_of_mem _ h1, h2⟩
def pm_ckI (cc : ByteArray) (q : Nat × Instr × Nat) : Bool := match decode cc q.1 with
  | .ok (i, len) => decide (i = q.2.1) && ((pm_len q.2.1 == 0 || len == pm_len q.2.1) && (match pm_off q.2.1 with
    | some o => decide ((q.1 : Int) + o = (q.2.2 : Int))
    | none => true))
  | .error _ => false
theorem pm_ckI_ok {cc : ByteArray} {l : List (Nat × List (Nat × Instr × Nat))} (h : l.all (fun q => q.2.all (pm_ckI cc)) = true) : ∀ pc ins tg, pm_lk2 l pc = some (ins, tg) → pm_okI cc pc ins tg := by
  intro pc ins tg hl
  obtain ⟨q, h1, h2⟩ := pm_lk2_mem hl
  have h3 := List.all_eq_true.mp (List.all_eq_true.mp h q h1) _ h2
  unfold pm_ckI at h3
  dsimp only at h3
  cases hd : decode cc pc with
  | error e => rw [hd] at h3; cases h3
  | ok v =>
    obtain ⟨i, len⟩ := v
    rw [hd] at h3
    simp only [Bool.and_eq_true, decide_eq_true_eq, Bool.or_eq_true, beq_iff_eq] at h3
    obtain ⟨e1, e2, e3⟩ := h3
    subst e1
    refine ⟨⟨len, hd, e2⟩, fun o ho => ?_⟩
    rw [ho] at e3
    simpa using e3
/-- the words that stay -/
def TW : List Cond := lw_tbl.filter goodWord
/-- the words in ten lists -/
def lw_ch : Nat → List Cond
  | 0 => k2_sels lw_privs
  | 1 => tables_1_1
  | 2 => tables_1_2
  | 3 => tables_1_3
  | 4 => tables_1_4
  | 5 => tables_1_5
  | 6 => tables_1_6
  | 7 => tables_1_7
  | 8 => tables_1_8
  | 9 => tables_1_9
  | _ => []
theorem lw_ch_in : ∀ (k : Nat) (w : Cond), w ∈ lw_ch k → w ∈ lw_tbl := by
  intro k w h
  have e : lw_tbl = k2_sels lw_privs ++ (tables_1_1 ++ (tables_1_2 ++ (tables_1_3 ++ (tables_1_4 ++ (tables_1_5 ++ (tables_1_6 ++ (tables_1_7 ++ (tables_1_8 ++ tables_1_9)))))))) := rfl
  rw [e]
  match k, h with
  | 0, h => exact List.mem_append_left _ h
  | 1, h => exact List.mem_append_right _ (List.mem_append_left _ h)
  | 2, h => exact List.mem_append_right _ (List.mem_append_right _ (List.mem_append_left _ h))
  | 3, h => exact List.mem_append_right _ (List.mem_append_right _ (List.mem_append_right _ (List.mem_append_left _ h)))
  | 4, h => exact List.mem_append_right _ (List.mem_append_right _ (List.mem_append_right _ (List.mem_append_right _ (List.mem_append_left _ h))))
  | 5, h => exact List.mem_append_right _ (List.mem_append_right _ (List.mem_append_right _ (List.mem_append_right _ (List.mem_append_right _ (List.mem_append_left _ h)))))
  | 6, h => exact List.mem_append_right _ (List.mem_append_right _ (List.mem_append_right _ (List.mem_append_right _ (List.mem_append_right _ (List.mem_append_right _ (List.mem_append_left _ h))))))
  | 7, h => exact List.mem_append_right _ (List.mem_append_right _ (List.mem_append_right _ (List.mem_append_right _ (List.mem_append_right _ (List.mem_append_right _ (List.mem_append_right _ (List.mem_append_left _ h)))))))
  | 8, h => exact List.mem_append_right _ (List.mem_append_right _ (List.mem_append_right _ (List.mem_append_right _ (List.mem_append_right _ (List.mem_append_right _ (List.mem_append_right _ (List.mem_append_right _ (List.mem_append_left _ h))))))))
  | 9, h => exact List.mem_append_right _ (List.mem_append_right _ (List.mem_append_right _ (List.mem_append_right _ (List.mem_append_right _ (List.mem_append_right _ (List.mem_append_right _ (List.mem_append_right _ (List.mem_append_right _ h))))))))
  | k + 10, h => exact absurd h List.not_mem_nil
def inT (pos : Nat) (w : Cond) : Bool := decide ((lw_ch (pos / 1000))[pos % 1000]? = some w) && goodWord w
theorem inT_ok {pos : Nat} {w : Cond} (h : inT pos w = true) : w ∈ TW := by
  simp only [inT, Bool.and_eq_true, decide_eq_true_eq] at h
  exact List.mem_filter.mpr ⟨lw_ch_in _ _ (List.mem_of_getElem? h.1), h.2⟩
theorem TW_ok (Ts : List Cond) (c : Cond) : pm_TW TW (c :: TW) := ⟨fun w h => List.mem_cons_of_mem _ h, fun w h => good_of_word (List.mem_filter.mp h).2⟩
def ckF (own : String) (ini : Bool) (q : Nat × (Nat × Nat) × Nat) : Bool := match vwCl[q.2.1.1]? with
  | some (_, T, N) => decide (q.2.1.2 < N) && (inT q.2.2 (.fieldLink own q.1 (T q.2.1.2).1 (T q.2.1.2).2.1 (T q.2.1.2).2.2.1) && (!ini || (!(T q.2.1.2).2.2.2 || decide ((T q.2.1.2).1 = own))))
  | none => false
theorem ckF_ok {own : String} {ini : Bool} {l : List (Nat × (Nat × Nat) × Nat)} (h : l.all (ckF own ini) = true) {i ci k : Nat} (hl : (pm_lk1 l i).map Prod.fst = some (ci, k)) {c : Cond} : pm_okF own (c :: TW) ini i ci k := by
  cases hq : pm_lk1 l i with
  | none => rw [hq] at hl; cases hl
  | some v =>
    obtain ⟨⟨ci', k'⟩, pos⟩ := v
    rw [hq] at hl
    cases hl
    have h3 := List.all_eq_true.mp h _ (pm_lk1_mem hq)
    unfold ckF at h3
    dsimp only at h3
    cases hc : vwCl[ci]? with
    | none => rw [hc] at h3; cases h3
    | some w =>
      obtain ⟨C', T, N⟩ := w
      rw [hc] at h3
      simp only [Bool.and_eq_true, decide_eq_true_eq, Bool.or_eq_true, Bool.not_eq_true'] at h3
      refine ⟨C', T, N, hc, h3.1, List.mem_cons_of_mem _ (inT_ok h3.2.1), fun h1 h2 => ?_⟩
      rcases h3.2.2 with g | g | g
      · rw [h1] at g; cases g
      · rw [h2] at g; cases g
      · exact g
