/-! THE LAW'S HELPERS: what they answer, by what the class answers -/
/-- an answer: a number, or a throw: NoSuchElementException (false), IllegalArgumentException (true) -/
abbrev An : Type := Int32 ⊕ Bool
def toC (s : An) : Int32 ⊕ String := match s with
  | .inl v => .inl v
  | .inr false => .inr x_N
  | .inr true => .inr x_I
def toT (s : An) : Int32 := match s with
  | .inl _ => 0
  | .inr false => 1
  | .inr true => 2
def toV (s : An) : Int32 := match s with
  | .inl v => v
  | .inr _ => 0
/-- an answer with one throw alone -/
def toN (s : Option Int32) : Int32 ⊕ String := match s with
  | some v => .inl v
  | none => .inr x_N
def toI (s : Option Int32) : Int32 ⊕ String := match s with
  | some v => .inl v
  | none => .inr x_I
def toU (s : Option Int32) : Int32 := match s with
  | some _ => 0
  | none => 1
def toW (s : Option Int32) : Int32 := match s with
  | some v => v
  | none => 0
theorem x_ne : ¬ x_I = x_N := by decide
theorem l_count {a1 : Int32} {m_ar : Nat → Int64} {m_tt_diary_acts : Int32} {m_tt_diary_notes : Int32} {m_tt_now_figures : Int32} {m_tt_now_held : Nat → Int32} {m_tt_now_hour : Int32} {m_tt_now_pence : Int32} {m_tt_now_sore : Nat → Int32} {m_tt_now_walls : Int64} {m_tt_plan_dullBelow : Int32} {m_tt_plan_figures : Int32} {m_tt_plan_height : Int32} {m_tt_plan_light : Nat → Int32} {m_tt_plan_lights : Int32} {m_tt_plan_seats : Int32} {m_tt_plan_width : Int32} {m_tt_refused : Nat → Int32} {m_tt_tape_size : Int32} {m_tt_ways_far : Nat → Int32} {m_tt_ways_queue : Nat → Int32} {sp : Option Int32} {Q : (Nat → Int32) × (Nat → Int32) → Prop} (h : zwp (f_X11_count a1 (m_tt_diary_acts) (m_tt_diary_notes) (m_tt_now_figures) (m_tt_now_held) (m_tt_now_hour) (m_tt_now_pence) (m_tt_now_sore) (m_tt_now_walls) (m_tt_plan_dullBelow) (m_tt_plan_figures) (m_tt_plan_height) (m_tt_plan_light) (m_tt_plan_lights) (m_tt_plan_seats) (m_tt_plan_width) (m_tt_refused) (m_tt_tape_size) (m_tt_ways_far) (m_tt_ways_queue)) (fun r => r.1 = toN sp ∧ Q r.2)) : zwp (f_L_count a1 1 m_ar m_tt_diary_acts m_tt_diary_notes m_tt_now_figures m_tt_now_held m_tt_now_hour m_tt_now_pence m_tt_now_sore m_tt_now_walls m_tt_plan_dullBelow m_tt_plan_figures m_tt_plan_height m_tt_plan_light m_tt_plan_lights m_tt_plan_seats m_tt_plan_width m_tt_refused m_tt_tape_size m_tt_ways_far m_tt_ways_queue) (fun r => r.1 = toU sp ∧ (toU sp = 0 → r.2.1 0 = (toW sp).toInt64) ∧ Q r.2.2) := by
  unfold f_L_count
  refine zi_bind (zwp_mono h ?_)
  rintro ⟨v, o0, o1⟩ ⟨hv, hq⟩
  dsimp only at hv hq
  subst hv
  rcases sp with _ | v
  · exact zi_t rfl (zwi ⟨rfl, fun h => absurd h (by decide), hq⟩)
  · show zwp (zbnd (nI 0) 1 _) _
    rw [zbnd_nI (by decide) (by decide)]
    exact zwi ⟨rfl, fun _ => rfl, hq⟩
theorem l_figure {a1 : Int32} {a2 : Int32} {m_ar : Nat → Int64} {m_tt_now_cell : Nat → Int32} {m_tt_now_figures : Int32} {m_tt_now_held : Nat → Int32} {m_tt_now_hour : Int32} {m_tt_now_lead : Nat → Int32} {m_tt_now_sore : Nat → Int32} {m_tt_plan_figures : Int32} {m_tt_plan_steps : Nat → Int32} {m_tt_plan_way : Nat → Int32} {sp : Option Int32} (h : zwp (f_X11_figure a1 a2 (m_tt_now_cell) (m_tt_now_figures) (m_tt_now_held) (m_tt_now_hour) (m_tt_now_lead) (m_tt_now_sore) (m_tt_plan_figures) (m_tt_plan_steps) (m_tt_plan_way)) (fun r => r = toN sp)) : zwp (f_L_figure a1 a2 1 m_ar m_tt_now_cell m_tt_now_figures m_tt_now_held m_tt_now_hour m_tt_now_lead m_tt_now_sore m_tt_plan_figures m_tt_plan_steps m_tt_plan_way) (fun r => r.1 = toU sp ∧ (toU sp = 0 → r.2 0 = (toW sp).toInt64)) := by
  unfold f_L_figure
  refine zi_bind (zwp_mono h ?_)
  rintro v hv
  subst hv
  rcases sp with _ | v
  · exact zi_t rfl (zwi ⟨rfl, fun h => absurd h (by decide)⟩)
  · show zwp (zbnd (nI 0) 1 _) _
    rw [zbnd_nI (by decide) (by decide)]
    exact zwi ⟨rfl, fun _ => rfl⟩
theorem l_cell {a1 : Int32} {a2 : Int32} {m_ar : Nat → Int64} {m_tt_now_cell : Nat → Int32} {m_tt_now_figures : Int32} {m_tt_now_walls : Int64} {m_tt_plan_height : Int32} {m_tt_plan_seatCell : Nat → Int32} {m_tt_plan_seats : Int32} {m_tt_plan_width : Int32} {sp : Option Int32} (h : zwp (f_X11_cell a1 a2 (m_tt_now_cell) (m_tt_now_figures) (m_tt_now_walls) (m_tt_plan_height) (m_tt_plan_seatCell) (m_tt_plan_seats) (m_tt_plan_width)) (fun r => r = toN sp)) : zwp (f_L_cell a1 a2 1 m_ar m_tt_now_cell m_tt_now_figures m_tt_now_walls m_tt_plan_height m_tt_plan_seatCell m_tt_plan_seats m_tt_plan_width) (fun r => r.1 = toU sp ∧ (toU sp = 0 → r.2 0 = (toW sp).toInt64)) := by
  unfold f_L_cell
  refine zi_bind (zwp_mono h ?_)
  rintro v hv
  subst hv
  rcases sp with _ | v
  · exact zi_t rfl (zwi ⟨rfl, fun h => absurd h (by decide)⟩)
  · show zwp (zbnd (nI 0) 1 _) _
    rw [zbnd_nI (by decide) (by decide)]
    exact zwi ⟨rfl, fun _ => rfl⟩
theorem l_stop {a1 : Int32} {a2 : Int32} {m_ar : Nat → Int64} {m_tt_diary_acts : Int32} {m_tt_diary_next : Int32} {m_tt_diary_rows : Nat → Int32} {m_tt_now_cell : Nat → Int32} {m_tt_now_held : Nat → Int32} {m_tt_now_hour : Int32} {m_tt_now_pence : Int32} {m_tt_now_sore : Nat → Int32} {m_tt_now_walls : Int64} {m_tt_plan_dullBelow : Int32} {m_tt_plan_figures : Int32} {m_tt_plan_light : Nat → Int32} {m_tt_plan_lights : Int32} {m_tt_refused : Nat → Int32} {sp : Option Int32} {Q : Int32 × Int32 × (Nat → Int32) × (Nat → Int32) × Int32 × (Nat → Int32) → Prop} (h : zwp (f_X11_stop a1 a2 (m_tt_diary_acts) (m_tt_diary_next) (m_tt_diary_rows) (m_tt_now_cell) (m_tt_now_held) (m_tt_now_hour) (m_tt_now_pence) (m_tt_now_sore) (m_tt_now_walls) (m_tt_plan_dullBelow) (m_tt_plan_figures) (m_tt_plan_light) (m_tt_plan_lights) (m_tt_refused)) (fun r => r.1 = toN sp ∧ Q r.2)) : zwp (f_L_stop a1 a2 1 m_ar m_tt_diary_acts m_tt_diary_next m_tt_diary_rows m_tt_now_cell m_tt_now_held m_tt_now_hour m_tt_now_pence m_tt_now_sore m_tt_now_walls m_tt_plan_dullBelow m_tt_plan_figures m_tt_plan_light m_tt_plan_lights m_tt_refused) (fun r => r.1 = toU sp ∧ (toU sp = 0 → r.2.1 0 = (toW sp).toInt64) ∧ Q r.2.2) := by
  unfold f_L_stop
  refine zi_bind (zwp_mono h ?_)
  rintro ⟨v, o0, o1, o2, o3, o4, o5⟩ ⟨hv, hq⟩
  dsimp only at hv hq
  subst hv
  rcases sp with _ | v
  · exact zi_t rfl (zwi ⟨rfl, fun h => absurd h (by decide), hq⟩)
  · show zwp (zbnd (nI 0) 1 _) _
    rw [zbnd_nI (by decide) (by decide)]
    exact zwi ⟨rfl, fun _ => rfl, hq⟩
theorem l_lift {a1 : Int32} {a2 : Int32} {m_ar : Nat → Int64} {m_tt_diary_acts : Int32} {m_tt_diary_next : Int32} {m_tt_diary_rows : Nat → Int32} {m_tt_now_cell : Nat → Int32} {m_tt_now_held : Nat → Int32} {m_tt_now_hour : Int32} {m_tt_now_pence : Int32} {m_tt_now_sore : Nat → Int32} {m_tt_now_walls : Int64} {m_tt_plan_dullBelow : Int32} {m_tt_plan_figures : Int32} {m_tt_plan_height : Int32} {m_tt_plan_light : Nat → Int32} {m_tt_plan_lights : Int32} {m_tt_plan_width : Int32} {m_tt_refused : Nat → Int32} {sp : Option Int32} {Q : Int32 × Int32 × (Nat → Int32) × (Nat → Int32) × (Nat → Int32) × Int32 × (Nat → Int32) → Prop} (h : zwp (f_X11_lift a1 a2 (m_tt_diary_acts) (m_tt_diary_next) (m_tt_diary_rows) (m_tt_now_cell) (m_tt_now_held) (m_tt_now_hour) (m_tt_now_pence) (m_tt_now_sore) (m_tt_now_walls) (m_tt_plan_dullBelow) (m_tt_plan_figures) (m_tt_plan_height) (m_tt_plan_light) (m_tt_plan_lights) (m_tt_plan_width) (m_tt_refused)) (fun r => r.1 = toN sp ∧ Q r.2)) : zwp (f_L_lift a1 a2 1 m_ar m_tt_diary_acts m_tt_diary_next m_tt_diary_rows m_tt_now_cell m_tt_now_held m_tt_now_hour m_tt_now_pence m_tt_now_sore m_tt_now_walls m_tt_plan_dullBelow m_tt_plan_figures m_tt_plan_height m_tt_plan_light m_tt_plan_lights m_tt_plan_width m_tt_refused) (fun r => r.1 = toU sp ∧ (toU sp = 0 → r.2.1 0 = (toW sp).toInt64) ∧ Q r.2.2) := by
  unfold f_L_lift
  refine zi_bind (zwp_mono h ?_)
  rintro ⟨v, o0, o1, o2, o3, o4, o5, o6⟩ ⟨hv, hq⟩
  dsimp only at hv hq
  subst hv
  rcases sp with _ | v
  · exact zi_t rfl (zwi ⟨rfl, fun h => absurd h (by decide), hq⟩)
  · show zwp (zbnd (nI 0) 1 _) _
    rw [zbnd_nI (by decide) (by decide)]
    exact zwi ⟨rfl, fun _ => rfl, hq⟩
theorem l_brush {a1 : Int32} {m_ar : Nat → Int64} {m_tt_diary_acts : Int32} {m_tt_diary_next : Int32} {m_tt_diary_rows : Nat → Int32} {m_tt_now_cell : Nat → Int32} {m_tt_now_held : Nat → Int32} {m_tt_now_hour : Int32} {m_tt_now_pence : Int32} {m_tt_now_sore : Nat → Int32} {m_tt_now_walls : Int64} {m_tt_plan_figures : Int32} {m_tt_refused : Nat → Int32} {sp : Option Int32} {Q : Int32 × Int32 × (Nat → Int32) × (Nat → Int32) × (Nat → Int32) → Prop} (h : zwp (f_X11_brush a1 (m_tt_diary_acts) (m_tt_diary_next) (m_tt_diary_rows) (m_tt_now_cell) (m_tt_now_held) (m_tt_now_hour) (m_tt_now_pence) (m_tt_now_sore) (m_tt_now_walls) (m_tt_plan_figures) (m_tt_refused)) (fun r => r.1 = toN sp ∧ Q r.2)) : zwp (f_L_brush a1 1 m_ar m_tt_diary_acts m_tt_diary_next m_tt_diary_rows m_tt_now_cell m_tt_now_held m_tt_now_hour m_tt_now_pence m_tt_now_sore m_tt_now_walls m_tt_plan_figures m_tt_refused) (fun r => r.1 = toU sp ∧ (toU sp = 0 → r.2.1 0 = (toW sp).toInt64) ∧ Q r.2.2) := by
  unfold f_L_brush
  refine zi_bind (zwp_mono h ?_)
  rintro ⟨v, o0, o1, o2, o3, o4⟩ ⟨hv, hq⟩
  dsimp only at hv hq
  subst hv
  rcases sp with _ | v
  · exact zi_t rfl (zwi ⟨rfl, fun h => absurd h (by decide), hq⟩)
  · show zwp (zbnd (nI 0) 1 _) _
    rw [zbnd_nI (by decide) (by decide)]
    exact zwi ⟨rfl, fun _ => rfl, hq⟩
theorem l_then {a1 : Int32} {a2 : Int32} {a3 : Int32} {m_ar : Nat → Int64} {m_tt_future_cell : Nat → Int32} {m_tt_future_figures : Int32} {m_tt_future_held : Nat → Int32} {m_tt_future_hour : Int32} {m_tt_future_lead : Nat → Int32} {m_tt_future_pence : Int32} {m_tt_future_sore : Nat → Int32} {m_tt_future_walls : Int64} {m_tt_mover_values : Nat → Int32} {m_tt_now_cell : Nat → Int32} {m_tt_now_figures : Int32} {m_tt_now_held : Nat → Int32} {m_tt_now_hour : Int32} {m_tt_now_lead : Nat → Int32} {m_tt_now_pence : Int32} {m_tt_now_sore : Nat → Int32} {m_tt_now_walls : Int64} {m_tt_plan_dullBelow : Int32} {m_tt_plan_figures : Int32} {m_tt_plan_goes_code : Nat → Int32} {m_tt_plan_goes_size : Int32} {m_tt_plan_goes_stack : Nat → Int32} {m_tt_plan_height : Int32} {m_tt_plan_hurts_code : Nat → Int32} {m_tt_plan_hurts_size : Int32} {m_tt_plan_hurts_stack : Nat → Int32} {m_tt_plan_light : Nat → Int32} {m_tt_plan_lights : Int32} {m_tt_plan_steps : Nat → Int32} {m_tt_plan_way : Nat → Int32} {m_tt_plan_width : Int32} {sp : An} {Q : (Nat → Int32) × Int32 × (Nat → Int32) × Int32 × (Nat → Int32) × Int32 × (Nat → Int32) × Int64 × (Nat → Int32) × (Nat → Int32) × (Nat → Int32) → Prop} (h : zwp (f_X11_then a1 a2 a3 (m_tt_future_cell) (m_tt_future_figures) (m_tt_future_held) (m_tt_future_hour) (m_tt_future_lead) (m_tt_future_pence) (m_tt_future_sore) (m_tt_future_walls) (m_tt_mover_values) (m_tt_now_cell) (m_tt_now_figures) (m_tt_now_held) (m_tt_now_hour) (m_tt_now_lead) (m_tt_now_pence) (m_tt_now_sore) (m_tt_now_walls) (m_tt_plan_dullBelow) (m_tt_plan_figures) (m_tt_plan_goes_code) (m_tt_plan_goes_size) (m_tt_plan_goes_stack) (m_tt_plan_height) (m_tt_plan_hurts_code) (m_tt_plan_hurts_size) (m_tt_plan_hurts_stack) (m_tt_plan_light) (m_tt_plan_lights) (m_tt_plan_steps) (m_tt_plan_way) (m_tt_plan_width)) (fun r => r.1 = toC sp ∧ Q r.2)) : zwp (f_L_then a1 a2 a3 1 m_ar m_tt_future_cell m_tt_future_figures m_tt_future_held m_tt_future_hour m_tt_future_lead m_tt_future_pence m_tt_future_sore m_tt_future_walls m_tt_mover_values m_tt_now_cell m_tt_now_figures m_tt_now_held m_tt_now_hour m_tt_now_lead m_tt_now_pence m_tt_now_sore m_tt_now_walls m_tt_plan_dullBelow m_tt_plan_figures m_tt_plan_goes_code m_tt_plan_goes_size m_tt_plan_goes_stack m_tt_plan_height m_tt_plan_hurts_code m_tt_plan_hurts_size m_tt_plan_hurts_stack m_tt_plan_light m_tt_plan_lights m_tt_plan_steps m_tt_plan_way m_tt_plan_width) (fun r => r.1 = toT sp ∧ (toT sp = 0 → r.2.1 0 = (toV sp).toInt64) ∧ Q r.2.2) := by
  unfold f_L_then
  refine zi_bind (zwp_mono h ?_)
  rintro ⟨v, o0, o1, o2, o3, o4, o5, o6, o7, o8, o9, o10⟩ ⟨hv, hq⟩
  dsimp only at hv hq
  subst hv
  rcases sp with v | c
  · show zwp (zbnd (nI 0) 1 _) _
    rw [zbnd_nI (by decide) (by decide)]
    exact zwi ⟨rfl, fun _ => rfl, hq⟩
  · cases c with
    | false => exact zi_t rfl (zwi ⟨rfl, fun h => absurd h (by decide), hq⟩)
    | true => exact zi_f x_ne (zi_t rfl (zwi ⟨rfl, fun h => absurd h (by decide), hq⟩))
theorem l_comes {a1 : Int32} {a2 : Int32} {m_ar : Nat → Int64} {m_tt_future_cell : Nat → Int32} {m_tt_future_figures : Int32} {m_tt_future_held : Nat → Int32} {m_tt_future_hour : Int32} {m_tt_future_lead : Nat → Int32} {m_tt_future_pence : Int32} {m_tt_future_sore : Nat → Int32} {m_tt_future_walls : Int64} {m_tt_mover_values : Nat → Int32} {m_tt_now_cell : Nat → Int32} {m_tt_now_figures : Int32} {m_tt_now_held : Nat → Int32} {m_tt_now_hour : Int32} {m_tt_now_lead : Nat → Int32} {m_tt_now_pence : Int32} {m_tt_now_sore : Nat → Int32} {m_tt_now_walls : Int64} {m_tt_plan_dullBelow : Int32} {m_tt_plan_figures : Int32} {m_tt_plan_goes_code : Nat → Int32} {m_tt_plan_goes_size : Int32} {m_tt_plan_goes_stack : Nat → Int32} {m_tt_plan_height : Int32} {m_tt_plan_hurts_code : Nat → Int32} {m_tt_plan_hurts_size : Int32} {m_tt_plan_hurts_stack : Nat → Int32} {m_tt_plan_light : Nat → Int32} {m_tt_plan_lights : Int32} {m_tt_plan_steps : Nat → Int32} {m_tt_plan_way : Nat → Int32} {m_tt_plan_width : Int32} {sp : Option Int32} {Q : (Nat → Int32) × Int32 × (Nat → Int32) × Int32 × (Nat → Int32) × Int32 × (Nat → Int32) × Int64 × (Nat → Int32) × (Nat → Int32) × (Nat → Int32) → Prop} (h : zwp (f_X11_comes a1 a2 (m_tt_future_cell) (m_tt_future_figures) (m_tt_future_held) (m_tt_future_hour) (m_tt_future_lead) (m_tt_future_pence) (m_tt_future_sore) (m_tt_future_walls) (m_tt_mover_values) (m_tt_now_cell) (m_tt_now_figures) (m_tt_now_held) (m_tt_now_hour) (m_tt_now_lead) (m_tt_now_pence) (m_tt_now_sore) (m_tt_now_walls) (m_tt_plan_dullBelow) (m_tt_plan_figures) (m_tt_plan_goes_code) (m_tt_plan_goes_size) (m_tt_plan_goes_stack) (m_tt_plan_height) (m_tt_plan_hurts_code) (m_tt_plan_hurts_size) (m_tt_plan_hurts_stack) (m_tt_plan_light) (m_tt_plan_lights) (m_tt_plan_steps) (m_tt_plan_way) (m_tt_plan_width)) (fun r => r.1 = toN sp ∧ Q r.2)) : zwp (f_L_comes a1 a2 1 m_ar m_tt_future_cell m_tt_future_figures m_tt_future_held m_tt_future_hour m_tt_future_lead m_tt_future_pence m_tt_future_sore m_tt_future_walls m_tt_mover_values m_tt_now_cell m_tt_now_figures m_tt_now_held m_tt_now_hour m_tt_now_lead m_tt_now_pence m_tt_now_sore m_tt_now_walls m_tt_plan_dullBelow m_tt_plan_figures m_tt_plan_goes_code m_tt_plan_goes_size m_tt_plan_goes_stack m_tt_plan_height m_tt_plan_hurts_code m_tt_plan_hurts_size m_tt_plan_hurts_stack m_tt_plan_light m_tt_plan_lights m_tt_plan_steps m_tt_plan_way m_tt_plan_width) (fun r => r.1 = toU sp ∧ (toU sp = 0 → r.2.1 0 = (toW sp).toInt64) ∧ Q r.2.2) := by
  unfold f_L_comes
  refine zi_bind (zwp_mono h ?_)
  rintro ⟨v, o0, o1, o2, o3, o4, o5, o6, o7, o8, o9, o10⟩ ⟨hv, hq⟩
  dsimp only at hv hq
  subst hv
  rcases sp with _ | v
  · exact zi_t rfl (zwi ⟨rfl, fun h => absurd h (by decide), hq⟩)
  · show zwp (zbnd (nI 0) 1 _) _
    rw [zbnd_nI (by decide) (by decide)]
    exact zwi ⟨rfl, fun _ => rfl, hq⟩
theorem l_meet {a1 : Int32} {a2 : Int32} {m_ar : Nat → Int64} {m_tt_future_cell : Nat → Int32} {m_tt_future_figures : Int32} {m_tt_future_held : Nat → Int32} {m_tt_future_hour : Int32} {m_tt_future_lead : Nat → Int32} {m_tt_future_pence : Int32} {m_tt_future_sore : Nat → Int32} {m_tt_future_walls : Int64} {m_tt_mover_values : Nat → Int32} {m_tt_now_cell : Nat → Int32} {m_tt_now_figures : Int32} {m_tt_now_held : Nat → Int32} {m_tt_now_hour : Int32} {m_tt_now_lead : Nat → Int32} {m_tt_now_pence : Int32} {m_tt_now_sore : Nat → Int32} {m_tt_now_walls : Int64} {m_tt_plan_dullBelow : Int32} {m_tt_plan_figures : Int32} {m_tt_plan_goes_code : Nat → Int32} {m_tt_plan_goes_size : Int32} {m_tt_plan_goes_stack : Nat → Int32} {m_tt_plan_height : Int32} {m_tt_plan_hurts_code : Nat → Int32} {m_tt_plan_hurts_size : Int32} {m_tt_plan_hurts_stack : Nat → Int32} {m_tt_plan_light : Nat → Int32} {m_tt_plan_lights : Int32} {m_tt_plan_steps : Nat → Int32} {m_tt_plan_way : Nat → Int32} {m_tt_plan_width : Int32} {sp : Option Int32} {Q : (Nat → Int32) × Int32 × (Nat → Int32) × Int32 × (Nat → Int32) × Int32 × (Nat → Int32) × Int64 × (Nat → Int32) × (Nat → Int32) × (Nat → Int32) → Prop} (h : zwp (f_X11_meet a1 a2 (m_tt_future_cell) (m_tt_future_figures) (m_tt_future_held) (m_tt_future_hour) (m_tt_future_lead) (m_tt_future_pence) (m_tt_future_sore) (m_tt_future_walls) (m_tt_mover_values) (m_tt_now_cell) (m_tt_now_figures) (m_tt_now_held) (m_tt_now_hour) (m_tt_now_lead) (m_tt_now_pence) (m_tt_now_sore) (m_tt_now_walls) (m_tt_plan_dullBelow) (m_tt_plan_figures) (m_tt_plan_goes_code) (m_tt_plan_goes_size) (m_tt_plan_goes_stack) (m_tt_plan_height) (m_tt_plan_hurts_code) (m_tt_plan_hurts_size) (m_tt_plan_hurts_stack) (m_tt_plan_light) (m_tt_plan_lights) (m_tt_plan_steps) (m_tt_plan_way) (m_tt_plan_width)) (fun r => r.1 = toN sp ∧ Q r.2)) : zwp (f_L_meet a1 a2 1 m_ar m_tt_future_cell m_tt_future_figures m_tt_future_held m_tt_future_hour m_tt_future_lead m_tt_future_pence m_tt_future_sore m_tt_future_walls m_tt_mover_values m_tt_now_cell m_tt_now_figures m_tt_now_held m_tt_now_hour m_tt_now_lead m_tt_now_pence m_tt_now_sore m_tt_now_walls m_tt_plan_dullBelow m_tt_plan_figures m_tt_plan_goes_code m_tt_plan_goes_size m_tt_plan_goes_stack m_tt_plan_height m_tt_plan_hurts_code m_tt_plan_hurts_size m_tt_plan_hurts_stack m_tt_plan_light m_tt_plan_lights m_tt_plan_steps m_tt_plan_way m_tt_plan_width) (fun r => r.1 = toU sp ∧ (toU sp = 0 → r.2.1 0 = (toW sp).toInt64) ∧ Q r.2.2) := by
  unfold f_L_meet
  refine zi_bind (zwp_mono h ?_)
  rintro ⟨v, o0, o1, o2, o3, o4, o5, o6, o7, o8, o9, o10⟩ ⟨hv, hq⟩
  dsimp only at hv hq
  subst hv
  rcases sp with _ | v
  · exact zi_t rfl (zwi ⟨rfl, fun h => absurd h (by decide), hq⟩)
  · show zwp (zbnd (nI 0) 1 _) _
    rw [zbnd_nI (by decide) (by decide)]
    exact zwi ⟨rfl, fun _ => rfl, hq⟩
theorem l_crowd {a1 : Int32} {a2 : Int32} {m_ar : Nat → Int64} {m_tt_future_cell : Nat → Int32} {m_tt_future_figures : Int32} {m_tt_future_held : Nat → Int32} {m_tt_future_hour : Int32} {m_tt_future_lead : Nat → Int32} {m_tt_future_pence : Int32} {m_tt_future_sore : Nat → Int32} {m_tt_future_walls : Int64} {m_tt_mover_values : Nat → Int32} {m_tt_now_cell : Nat → Int32} {m_tt_now_figures : Int32} {m_tt_now_held : Nat → Int32} {m_tt_now_hour : Int32} {m_tt_now_lead : Nat → Int32} {m_tt_now_pence : Int32} {m_tt_now_sore : Nat → Int32} {m_tt_now_walls : Int64} {m_tt_plan_dullBelow : Int32} {m_tt_plan_figures : Int32} {m_tt_plan_goes_code : Nat → Int32} {m_tt_plan_goes_size : Int32} {m_tt_plan_goes_stack : Nat → Int32} {m_tt_plan_height : Int32} {m_tt_plan_hurts_code : Nat → Int32} {m_tt_plan_hurts_size : Int32} {m_tt_plan_hurts_stack : Nat → Int32} {m_tt_plan_light : Nat → Int32} {m_tt_plan_lights : Int32} {m_tt_plan_steps : Nat → Int32} {m_tt_plan_way : Nat → Int32} {m_tt_plan_width : Int32} {sp : An} {Q : (Nat → Int32) × Int32 × (Nat → Int32) × Int32 × (Nat → Int32) × Int32 × (Nat → Int32) × Int64 × (Nat → Int32) × (Nat → Int32) × (Nat → Int32) → Prop} (h : zwp (f_X11_crowd a1 a2 (m_tt_future_cell) (m_tt_future_figures) (m_tt_future_held) (m_tt_future_hour) (m_tt_future_lead) (m_tt_future_pence) (m_tt_future_sore) (m_tt_future_walls) (m_tt_mover_values) (m_tt_now_cell) (m_tt_now_figures) (m_tt_now_held) (m_tt_now_hour) (m_tt_now_lead) (m_tt_now_pence) (m_tt_now_sore) (m_tt_now_walls) (m_tt_plan_dullBelow) (m_tt_plan_figures) (m_tt_plan_goes_code) (m_tt_plan_goes_size) (m_tt_plan_goes_stack) (m_tt_plan_height) (m_tt_plan_hurts_code) (m_tt_plan_hurts_size) (m_tt_plan_hurts_stack) (m_tt_plan_light) (m_tt_plan_lights) (m_tt_plan_steps) (m_tt_plan_way) (m_tt_plan_width)) (fun r => r.1 = toC sp ∧ Q r.2)) : zwp (f_L_crowd a1 a2 1 m_ar m_tt_future_cell m_tt_future_figures m_tt_future_held m_tt_future_hour m_tt_future_lead m_tt_future_pence m_tt_future_sore m_tt_future_walls m_tt_mover_values m_tt_now_cell m_tt_now_figures m_tt_now_held m_tt_now_hour m_tt_now_lead m_tt_now_pence m_tt_now_sore m_tt_now_walls m_tt_plan_dullBelow m_tt_plan_figures m_tt_plan_goes_code m_tt_plan_goes_size m_tt_plan_goes_stack m_tt_plan_height m_tt_plan_hurts_code m_tt_plan_hurts_size m_tt_plan_hurts_stack m_tt_plan_light m_tt_plan_lights m_tt_plan_steps m_tt_plan_way m_tt_plan_width) (fun r => r.1 = toT sp ∧ (toT sp = 0 → r.2.1 0 = (toV sp).toInt64) ∧ Q r.2.2) := by
  unfold f_L_crowd
  refine zi_bind (zwp_mono h ?_)
  rintro ⟨v, o0, o1, o2, o3, o4, o5, o6, o7, o8, o9, o10⟩ ⟨hv, hq⟩
  dsimp only at hv hq
  subst hv
  rcases sp with v | c
  · show zwp (zbnd (nI 0) 1 _) _
    rw [zbnd_nI (by decide) (by decide)]
    exact zwi ⟨rfl, fun _ => rfl, hq⟩
  · cases c with
    | false => exact zi_t rfl (zwi ⟨rfl, fun h => absurd h (by decide), hq⟩)
    | true => exact zi_f x_ne (zi_t rfl (zwi ⟨rfl, fun h => absurd h (by decide), hq⟩))
theorem l_spread {a1 : Int32} {a2 : Int32} {m_ar : Nat → Int64} {m_tt_future_cell : Nat → Int32} {m_tt_future_figures : Int32} {m_tt_future_held : Nat → Int32} {m_tt_future_hour : Int32} {m_tt_future_lead : Nat → Int32} {m_tt_future_pence : Int32} {m_tt_future_sore : Nat → Int32} {m_tt_future_walls : Int64} {m_tt_mover_values : Nat → Int32} {m_tt_now_cell : Nat → Int32} {m_tt_now_figures : Int32} {m_tt_now_held : Nat → Int32} {m_tt_now_hour : Int32} {m_tt_now_lead : Nat → Int32} {m_tt_now_pence : Int32} {m_tt_now_sore : Nat → Int32} {m_tt_now_walls : Int64} {m_tt_plan_dullBelow : Int32} {m_tt_plan_figures : Int32} {m_tt_plan_goes_code : Nat → Int32} {m_tt_plan_goes_size : Int32} {m_tt_plan_goes_stack : Nat → Int32} {m_tt_plan_height : Int32} {m_tt_plan_hurts_code : Nat → Int32} {m_tt_plan_hurts_size : Int32} {m_tt_plan_hurts_stack : Nat → Int32} {m_tt_plan_light : Nat → Int32} {m_tt_plan_lights : Int32} {m_tt_plan_steps : Nat → Int32} {m_tt_plan_way : Nat → Int32} {m_tt_plan_width : Int32} {sp : An} {Q : (Nat → Int32) × Int32 × (Nat → Int32) × Int32 × (Nat → Int32) × Int32 × (Nat → Int32) × Int64 × (Nat → Int32) × (Nat → Int32) × (Nat → Int32) → Prop} (h : zwp (f_X11_spread a1 a2 (m_tt_future_cell) (m_tt_future_figures) (m_tt_future_held) (m_tt_future_hour) (m_tt_future_lead) (m_tt_future_pence) (m_tt_future_sore) (m_tt_future_walls) (m_tt_mover_values) (m_tt_now_cell) (m_tt_now_figures) (m_tt_now_held) (m_tt_now_hour) (m_tt_now_lead) (m_tt_now_pence) (m_tt_now_sore) (m_tt_now_walls) (m_tt_plan_dullBelow) (m_tt_plan_figures) (m_tt_plan_goes_code) (m_tt_plan_goes_size) (m_tt_plan_goes_stack) (m_tt_plan_height) (m_tt_plan_hurts_code) (m_tt_plan_hurts_size) (m_tt_plan_hurts_stack) (m_tt_plan_light) (m_tt_plan_lights) (m_tt_plan_steps) (m_tt_plan_way) (m_tt_plan_width)) (fun r => r.1 = toC sp ∧ Q r.2)) : zwp (f_L_spread a1 a2 1 m_ar m_tt_future_cell m_tt_future_figures m_tt_future_held m_tt_future_hour m_tt_future_lead m_tt_future_pence m_tt_future_sore m_tt_future_walls m_tt_mover_values m_tt_now_cell m_tt_now_figures m_tt_now_held m_tt_now_hour m_tt_now_lead m_tt_now_pence m_tt_now_sore m_tt_now_walls m_tt_plan_dullBelow m_tt_plan_figures m_tt_plan_goes_code m_tt_plan_goes_size m_tt_plan_goes_stack m_tt_plan_height m_tt_plan_hurts_code m_tt_plan_hurts_size m_tt_plan_hurts_stack m_tt_plan_light m_tt_plan_lights m_tt_plan_steps m_tt_plan_way m_tt_plan_width) (fun r => r.1 = toT sp ∧ (toT sp = 0 → r.2.1 0 = (toV sp).toInt64) ∧ Q r.2.2) := by
  unfold f_L_spread
  refine zi_bind (zwp_mono h ?_)
  rintro ⟨v, o0, o1, o2, o3, o4, o5, o6, o7, o8, o9, o10⟩ ⟨hv, hq⟩
  dsimp only at hv hq
  subst hv
  rcases sp with v | c
  · show zwp (zbnd (nI 0) 1 _) _
    rw [zbnd_nI (by decide) (by decide)]
    exact zwi ⟨rfl, fun _ => rfl, hq⟩
  · cases c with
    | false => exact zi_t rfl (zwi ⟨rfl, fun h => absurd h (by decide), hq⟩)
    | true => exact zi_f x_ne (zi_t rfl (zwi ⟨rfl, fun h => absurd h (by decide), hq⟩))
theorem l_way {a1 : Int32} {a2 : Int32} {a3 : Int32} {m_ar : Nat → Int64} {m_tt_now_walls : Int64} {m_tt_plan_height : Int32} {m_tt_plan_width : Int32} {m_tt_ways_far : Nat → Int32} {m_tt_ways_queue : Nat → Int32} {sp : Option Int32} {Q : (Nat → Int32) × (Nat → Int32) → Prop} (h : zwp (f_X11_way a1 a2 a3 (m_tt_now_walls) (m_tt_plan_height) (m_tt_plan_width) (m_tt_ways_far) (m_tt_ways_queue)) (fun r => r.1 = toN sp ∧ Q r.2)) : zwp (f_L_way a1 a2 a3 1 m_ar m_tt_now_walls m_tt_plan_height m_tt_plan_width m_tt_ways_far m_tt_ways_queue) (fun r => r.1 = toU sp ∧ (toU sp = 0 → r.2.1 0 = (toW sp).toInt64) ∧ Q r.2.2) := by
  unfold f_L_way
  refine zi_bind (zwp_mono h ?_)
  rintro ⟨v, o0, o1⟩ ⟨hv, hq⟩
  dsimp only at hv hq
  subst hv
  rcases sp with _ | v
  · exact zi_t rfl (zwi ⟨rfl, fun h => absurd h (by decide), hq⟩)
  · show zwp (zbnd (nI 0) 1 _) _
    rw [zbnd_nI (by decide) (by decide)]
    exact zwi ⟨rfl, fun _ => rfl, hq⟩
theorem l_toStop {a1 : Int32} {a2 : Int32} {a3 : Int32} {m_ar : Nat → Int64} {m_tt_future_cell : Nat → Int32} {m_tt_future_figures : Int32} {m_tt_future_held : Nat → Int32} {m_tt_future_hour : Int32} {m_tt_future_lead : Nat → Int32} {m_tt_future_pence : Int32} {m_tt_future_sore : Nat → Int32} {m_tt_future_walls : Int64} {m_tt_mover_values : Nat → Int32} {m_tt_now_cell : Nat → Int32} {m_tt_now_figures : Int32} {m_tt_now_held : Nat → Int32} {m_tt_now_hour : Int32} {m_tt_now_lead : Nat → Int32} {m_tt_now_pence : Int32} {m_tt_now_sore : Nat → Int32} {m_tt_now_walls : Int64} {m_tt_plan_dullBelow : Int32} {m_tt_plan_figures : Int32} {m_tt_plan_goes_code : Nat → Int32} {m_tt_plan_goes_size : Int32} {m_tt_plan_goes_stack : Nat → Int32} {m_tt_plan_height : Int32} {m_tt_plan_hurts_code : Nat → Int32} {m_tt_plan_hurts_size : Int32} {m_tt_plan_hurts_stack : Nat → Int32} {m_tt_plan_light : Nat → Int32} {m_tt_plan_lights : Int32} {m_tt_plan_steps : Nat → Int32} {m_tt_plan_way : Nat → Int32} {m_tt_plan_width : Int32} {sp : An} {Q : (Nat → Int32) × Int32 × (Nat → Int32) × Int32 × (Nat → Int32) × Int32 × (Nat → Int32) × Int64 × (Nat → Int32) × (Nat → Int32) × (Nat → Int32) → Prop} (h : zwp (f_X11_toStop a1 a2 a3 (m_tt_future_cell) (m_tt_future_figures) (m_tt_future_held) (m_tt_future_hour) (m_tt_future_lead) (m_tt_future_pence) (m_tt_future_sore) (m_tt_future_walls) (m_tt_mover_values) (m_tt_now_cell) (m_tt_now_figures) (m_tt_now_held) (m_tt_now_hour) (m_tt_now_lead) (m_tt_now_pence) (m_tt_now_sore) (m_tt_now_walls) (m_tt_plan_dullBelow) (m_tt_plan_figures) (m_tt_plan_goes_code) (m_tt_plan_goes_size) (m_tt_plan_goes_stack) (m_tt_plan_height) (m_tt_plan_hurts_code) (m_tt_plan_hurts_size) (m_tt_plan_hurts_stack) (m_tt_plan_light) (m_tt_plan_lights) (m_tt_plan_steps) (m_tt_plan_way) (m_tt_plan_width)) (fun r => r.1 = toC sp ∧ Q r.2)) : zwp (f_L_toStop a1 a2 a3 1 m_ar m_tt_future_cell m_tt_future_figures m_tt_future_held m_tt_future_hour m_tt_future_lead m_tt_future_pence m_tt_future_sore m_tt_future_walls m_tt_mover_values m_tt_now_cell m_tt_now_figures m_tt_now_held m_tt_now_hour m_tt_now_lead m_tt_now_pence m_tt_now_sore m_tt_now_walls m_tt_plan_dullBelow m_tt_plan_figures m_tt_plan_goes_code m_tt_plan_goes_size m_tt_plan_goes_stack m_tt_plan_height m_tt_plan_hurts_code m_tt_plan_hurts_size m_tt_plan_hurts_stack m_tt_plan_light m_tt_plan_lights m_tt_plan_steps m_tt_plan_way m_tt_plan_width) (fun r => r.1 = toT sp ∧ (toT sp = 0 → r.2.1 0 = (toV sp).toInt64) ∧ Q r.2.2) := by
  unfold f_L_toStop
  refine zi_bind (zwp_mono h ?_)
  rintro ⟨v, o0, o1, o2, o3, o4, o5, o6, o7, o8, o9, o10⟩ ⟨hv, hq⟩
  dsimp only at hv hq
  subst hv
  rcases sp with v | c
  · show zwp (zbnd (nI 0) 1 _) _
    rw [zbnd_nI (by decide) (by decide)]
    exact zwi ⟨rfl, fun _ => rfl, hq⟩
  · cases c with
    | false => exact zi_t rfl (zwi ⟨rfl, fun h => absurd h (by decide), hq⟩)
    | true => exact zi_f x_ne (zi_t rfl (zwi ⟨rfl, fun h => absurd h (by decide), hq⟩))
theorem l_toThin {a1 : Int32} {m_ar : Nat → Int64} {m_tt_future_cell : Nat → Int32} {m_tt_future_figures : Int32} {m_tt_future_held : Nat → Int32} {m_tt_future_hour : Int32} {m_tt_future_lead : Nat → Int32} {m_tt_future_pence : Int32} {m_tt_future_sore : Nat → Int32} {m_tt_future_walls : Int64} {m_tt_met : Nat → Int32} {m_tt_mover_values : Nat → Int32} {m_tt_now_cell : Nat → Int32} {m_tt_now_figures : Int32} {m_tt_now_held : Nat → Int32} {m_tt_now_hour : Int32} {m_tt_now_lead : Nat → Int32} {m_tt_now_pence : Int32} {m_tt_now_sore : Nat → Int32} {m_tt_now_walls : Int64} {m_tt_plan_dullBelow : Int32} {m_tt_plan_figures : Int32} {m_tt_plan_goes_code : Nat → Int32} {m_tt_plan_goes_size : Int32} {m_tt_plan_goes_stack : Nat → Int32} {m_tt_plan_height : Int32} {m_tt_plan_hurts_code : Nat → Int32} {m_tt_plan_hurts_size : Int32} {m_tt_plan_hurts_stack : Nat → Int32} {m_tt_plan_light : Nat → Int32} {m_tt_plan_lights : Int32} {m_tt_plan_steps : Nat → Int32} {m_tt_plan_way : Nat → Int32} {m_tt_plan_width : Int32} {sp : Option Int32} {Q : (Nat → Int32) × Int32 × (Nat → Int32) × Int32 × (Nat → Int32) × Int32 × (Nat → Int32) × Int64 × (Nat → Int32) × (Nat → Int32) × (Nat → Int32) × (Nat → Int32) → Prop} (h : zwp (f_X11_toThin a1 (m_tt_future_cell) (m_tt_future_figures) (m_tt_future_held) (m_tt_future_hour) (m_tt_future_lead) (m_tt_future_pence) (m_tt_future_sore) (m_tt_future_walls) (m_tt_met) (m_tt_mover_values) (m_tt_now_cell) (m_tt_now_figures) (m_tt_now_held) (m_tt_now_hour) (m_tt_now_lead) (m_tt_now_pence) (m_tt_now_sore) (m_tt_now_walls) (m_tt_plan_dullBelow) (m_tt_plan_figures) (m_tt_plan_goes_code) (m_tt_plan_goes_size) (m_tt_plan_goes_stack) (m_tt_plan_height) (m_tt_plan_hurts_code) (m_tt_plan_hurts_size) (m_tt_plan_hurts_stack) (m_tt_plan_light) (m_tt_plan_lights) (m_tt_plan_steps) (m_tt_plan_way) (m_tt_plan_width)) (fun r => r.1 = toI sp ∧ Q r.2)) : zwp (f_L_toThin a1 1 m_ar m_tt_future_cell m_tt_future_figures m_tt_future_held m_tt_future_hour m_tt_future_lead m_tt_future_pence m_tt_future_sore m_tt_future_walls m_tt_met m_tt_mover_values m_tt_now_cell m_tt_now_figures m_tt_now_held m_tt_now_hour m_tt_now_lead m_tt_now_pence m_tt_now_sore m_tt_now_walls m_tt_plan_dullBelow m_tt_plan_figures m_tt_plan_goes_code m_tt_plan_goes_size m_tt_plan_goes_stack m_tt_plan_height m_tt_plan_hurts_code m_tt_plan_hurts_size m_tt_plan_hurts_stack m_tt_plan_light m_tt_plan_lights m_tt_plan_steps m_tt_plan_way m_tt_plan_width) (fun r => r.1 = toU sp ∧ (toU sp = 0 → r.2.1 0 = (toW sp).toInt64) ∧ Q r.2.2) := by
  unfold f_L_toThin
  refine zi_bind (zwp_mono h ?_)
  rintro ⟨v, o0, o1, o2, o3, o4, o5, o6, o7, o8, o9, o10, o11⟩ ⟨hv, hq⟩
  dsimp only at hv hq
  subst hv
  rcases sp with _ | v
  · exact zi_t rfl (zwi ⟨rfl, fun h => absurd h (by decide), hq⟩)
  · show zwp (zbnd (nI 0) 1 _) _
    rw [zbnd_nI (by decide) (by decide)]
    exact zwi ⟨rfl, fun _ => rfl, hq⟩
theorem l_seats {a1 : Int32} {m_ar : Nat → Int64} {m_tt_now_cell : Nat → Int32} {m_tt_now_walls : Int64} {m_tt_plan_figures : Int32} {m_tt_plan_height : Int32} {m_tt_plan_seatCell : Nat → Int32} {m_tt_plan_seats : Int32} {m_tt_plan_width : Int32} {m_tt_seating_best : Nat → Int32} {m_tt_seating_far : Int32} {m_tt_seating_farTo : Nat → Int32} {m_tt_seating_placed : Int32} {m_tt_seating_seatOf : Nat → Int32} {m_tt_ways_far : Nat → Int32} {m_tt_ways_queue : Nat → Int32} {sp : Option Int32} {Q : (Nat → Int32) × Int32 × (Nat → Int32) × Int32 × (Nat → Int32) × (Nat → Int32) × (Nat → Int32) → Prop} (h : zwp (f_X11_seats a1 (m_tt_now_cell) (m_tt_now_walls) (m_tt_plan_figures) (m_tt_plan_height) (m_tt_plan_seatCell) (m_tt_plan_seats) (m_tt_plan_width) (m_tt_seating_best) (m_tt_seating_far) (m_tt_seating_farTo) (m_tt_seating_placed) (m_tt_seating_seatOf) (m_tt_ways_far) (m_tt_ways_queue)) (fun r => r.1 = toN sp ∧ Q r.2)) : zwp (f_L_seats a1 1 m_ar m_tt_now_cell m_tt_now_walls m_tt_plan_figures m_tt_plan_height m_tt_plan_seatCell m_tt_plan_seats m_tt_plan_width m_tt_seating_best m_tt_seating_far m_tt_seating_farTo m_tt_seating_placed m_tt_seating_seatOf m_tt_ways_far m_tt_ways_queue) (fun r => r.1 = toU sp ∧ (toU sp = 0 → r.2.1 0 = (toW sp).toInt64) ∧ Q r.2.2) := by
  unfold f_L_seats
  refine zi_bind (zwp_mono h ?_)
  rintro ⟨v, o0, o1, o2, o3, o4, o5, o6⟩ ⟨hv, hq⟩
  dsimp only at hv hq
  subst hv
  rcases sp with _ | v
  · exact zi_t rfl (zwi ⟨rfl, fun h => absurd h (by decide), hq⟩)
  · show zwp (zbnd (nI 0) 1 _) _
    rw [zbnd_nI (by decide) (by decide)]
    exact zwi ⟨rfl, fun _ => rfl, hq⟩
theorem l_seat {a1 : Int32} {m_ar : Nat → Int64} {m_tt_now_cell : Nat → Int32} {m_tt_now_walls : Int64} {m_tt_plan_figures : Int32} {m_tt_plan_height : Int32} {m_tt_plan_seatCell : Nat → Int32} {m_tt_plan_seats : Int32} {m_tt_plan_width : Int32} {m_tt_seating_best : Nat → Int32} {m_tt_seating_far : Int32} {m_tt_seating_farTo : Nat → Int32} {m_tt_seating_placed : Int32} {m_tt_seating_seatOf : Nat → Int32} {m_tt_ways_far : Nat → Int32} {m_tt_ways_queue : Nat → Int32} {sp : Option Int32} {Q : (Nat → Int32) × Int32 × (Nat → Int32) × Int32 × (Nat → Int32) × (Nat → Int32) × (Nat → Int32) → Prop} (h : zwp (f_X11_seat a1 (m_tt_now_cell) (m_tt_now_walls) (m_tt_plan_figures) (m_tt_plan_height) (m_tt_plan_seatCell) (m_tt_plan_seats) (m_tt_plan_width) (m_tt_seating_best) (m_tt_seating_far) (m_tt_seating_farTo) (m_tt_seating_placed) (m_tt_seating_seatOf) (m_tt_ways_far) (m_tt_ways_queue)) (fun r => r.1 = toN sp ∧ Q r.2)) : zwp (f_L_seat a1 1 m_ar m_tt_now_cell m_tt_now_walls m_tt_plan_figures m_tt_plan_height m_tt_plan_seatCell m_tt_plan_seats m_tt_plan_width m_tt_seating_best m_tt_seating_far m_tt_seating_farTo m_tt_seating_placed m_tt_seating_seatOf m_tt_ways_far m_tt_ways_queue) (fun r => r.1 = toU sp ∧ (toU sp = 0 → r.2.1 0 = (toW sp).toInt64) ∧ Q r.2.2) := by
  unfold f_L_seat
  refine zi_bind (zwp_mono h ?_)
  rintro ⟨v, o0, o1, o2, o3, o4, o5, o6⟩ ⟨hv, hq⟩
  dsimp only at hv hq
  subst hv
  rcases sp with _ | v
  · exact zi_t rfl (zwi ⟨rfl, fun h => absurd h (by decide), hq⟩)
  · show zwp (zbnd (nI 0) 1 _) _
    rw [zbnd_nI (by decide) (by decide)]
    exact zwi ⟨rfl, fun _ => rfl, hq⟩
theorem l_note {a1 : Int32} {a2 : Int32} {a3 : Int32} {m_ar : Nat → Int64} {m_tt_diary_cell : Nat → Int32} {m_tt_diary_figure : Nat → Int32} {m_tt_diary_hours : Nat → Int32} {m_tt_diary_notes : Int32} {m_tt_plan_figures : Int32} {m_tt_plan_height : Int32} {m_tt_plan_width : Int32} {m_tt_refused : Nat → Int32} {sp : Option Int32} {Q : (Nat → Int32) × (Nat → Int32) × (Nat → Int32) × Int32 × (Nat → Int32) → Prop} (h : zwp (f_X11_note a1 a2 a3 (m_tt_diary_cell) (m_tt_diary_figure) (m_tt_diary_hours) (m_tt_diary_notes) (m_tt_plan_figures) (m_tt_plan_height) (m_tt_plan_width) (m_tt_refused)) (fun r => r.1 = toN sp ∧ Q r.2)) : zwp (f_L_note a1 a2 a3 1 m_ar m_tt_diary_cell m_tt_diary_figure m_tt_diary_hours m_tt_diary_notes m_tt_plan_figures m_tt_plan_height m_tt_plan_width m_tt_refused) (fun r => r.1 = toU sp ∧ (toU sp = 0 → r.2.1 0 = (toW sp).toInt64) ∧ Q r.2.2) := by
  unfold f_L_note
  refine zi_bind (zwp_mono h ?_)
  rintro ⟨v, o0, o1, o2, o3, o4⟩ ⟨hv, hq⟩
  dsimp only at hv hq
  subst hv
  rcases sp with _ | v
  · exact zi_t rfl (zwi ⟨rfl, fun h => absurd h (by decide), hq⟩)
  · show zwp (zbnd (nI 0) 1 _) _
    rw [zbnd_nI (by decide) (by decide)]
    exact zwi ⟨rfl, fun _ => rfl, hq⟩
theorem l_ahead {a1 : Int32} {m_ar : Nat → Int64} {m_tt_diary_cell : Nat → Int32} {m_tt_diary_figure : Nat → Int32} {m_tt_diary_hours : Nat → Int32} {m_tt_diary_notes : Int32} {m_tt_future_cell : Nat → Int32} {m_tt_future_figures : Int32} {m_tt_future_held : Nat → Int32} {m_tt_future_hour : Int32} {m_tt_future_lead : Nat → Int32} {m_tt_future_pence : Int32} {m_tt_future_sore : Nat → Int32} {m_tt_future_walls : Int64} {m_tt_guesses_first : Int32} {m_tt_guesses_many : Int32} {m_tt_guesses_places : Nat → Int64} {m_tt_guesses_trial_cell : Nat → Int32} {m_tt_guesses_trial_figures : Int32} {m_tt_guesses_trial_held : Nat → Int32} {m_tt_guesses_trial_hour : Int32} {m_tt_guesses_trial_lead : Nat → Int32} {m_tt_guesses_trial_pence : Int32} {m_tt_guesses_trial_sore : Nat → Int32} {m_tt_guesses_trial_walls : Int64} {m_tt_mover_values : Nat → Int32} {m_tt_now_cell : Nat → Int32} {m_tt_now_figures : Int32} {m_tt_now_held : Nat → Int32} {m_tt_now_hour : Int32} {m_tt_now_lead : Nat → Int32} {m_tt_now_pence : Int32} {m_tt_now_sore : Nat → Int32} {m_tt_now_walls : Int64} {m_tt_plan_dullBelow : Int32} {m_tt_plan_figures : Int32} {m_tt_plan_goes_code : Nat → Int32} {m_tt_plan_goes_size : Int32} {m_tt_plan_goes_stack : Nat → Int32} {m_tt_plan_height : Int32} {m_tt_plan_hurts_code : Nat → Int32} {m_tt_plan_hurts_size : Int32} {m_tt_plan_hurts_stack : Nat → Int32} {m_tt_plan_light : Nat → Int32} {m_tt_plan_lights : Int32} {m_tt_plan_steps : Nat → Int32} {m_tt_plan_way : Nat → Int32} {m_tt_plan_width : Int32} {sp : Option Int32} {Q : (Nat → Int32) × Int32 × (Nat → Int32) × Int32 × (Nat → Int32) × Int32 × (Nat → Int32) × Int64 × Int32 × Int32 × (Nat → Int64) × (Nat → Int32) × Int32 × (Nat → Int32) × Int32 × (Nat → Int32) × Int32 × (Nat → Int32) × Int64 × (Nat → Int32) × (Nat → Int32) × (Nat → Int32) → Prop} (h : zwp (f_X11_ahead a1 (m_tt_diary_cell) (m_tt_diary_figure) (m_tt_diary_hours) (m_tt_diary_notes) (m_tt_future_cell) (m_tt_future_figures) (m_tt_future_held) (m_tt_future_hour) (m_tt_future_lead) (m_tt_future_pence) (m_tt_future_sore) (m_tt_future_walls) (m_tt_guesses_first) (m_tt_guesses_many) (m_tt_guesses_places) (m_tt_guesses_trial_cell) (m_tt_guesses_trial_figures) (m_tt_guesses_trial_held) (m_tt_guesses_trial_hour) (m_tt_guesses_trial_lead) (m_tt_guesses_trial_pence) (m_tt_guesses_trial_sore) (m_tt_guesses_trial_walls) (m_tt_mover_values) (m_tt_now_cell) (m_tt_now_figures) (m_tt_now_held) (m_tt_now_hour) (m_tt_now_lead) (m_tt_now_pence) (m_tt_now_sore) (m_tt_now_walls) (m_tt_plan_dullBelow) (m_tt_plan_figures) (m_tt_plan_goes_code) (m_tt_plan_goes_size) (m_tt_plan_goes_stack) (m_tt_plan_height) (m_tt_plan_hurts_code) (m_tt_plan_hurts_size) (m_tt_plan_hurts_stack) (m_tt_plan_light) (m_tt_plan_lights) (m_tt_plan_steps) (m_tt_plan_way) (m_tt_plan_width)) (fun r => r.1 = toN sp ∧ Q r.2)) : zwp (f_L_ahead a1 1 m_ar m_tt_diary_cell m_tt_diary_figure m_tt_diary_hours m_tt_diary_notes m_tt_future_cell m_tt_future_figures m_tt_future_held m_tt_future_hour m_tt_future_lead m_tt_future_pence m_tt_future_sore m_tt_future_walls m_tt_guesses_first m_tt_guesses_many m_tt_guesses_places m_tt_guesses_trial_cell m_tt_guesses_trial_figures m_tt_guesses_trial_held m_tt_guesses_trial_hour m_tt_guesses_trial_lead m_tt_guesses_trial_pence m_tt_guesses_trial_sore m_tt_guesses_trial_walls m_tt_mover_values m_tt_now_cell m_tt_now_figures m_tt_now_held m_tt_now_hour m_tt_now_lead m_tt_now_pence m_tt_now_sore m_tt_now_walls m_tt_plan_dullBelow m_tt_plan_figures m_tt_plan_goes_code m_tt_plan_goes_size m_tt_plan_goes_stack m_tt_plan_height m_tt_plan_hurts_code m_tt_plan_hurts_size m_tt_plan_hurts_stack m_tt_plan_light m_tt_plan_lights m_tt_plan_steps m_tt_plan_way m_tt_plan_width) (fun r => r.1 = toU sp ∧ (toU sp = 0 → r.2.1 0 = (toW sp).toInt64) ∧ Q r.2.2) := by
  unfold f_L_ahead
  refine zi_bind (zwp_mono h ?_)
  rintro ⟨v, o0, o1, o2, o3, o4, o5, o6, o7, o8, o9, o10, o11, o12, o13, o14, o15, o16, o17, o18, o19, o20, o21⟩ ⟨hv, hq⟩
  dsimp only at hv hq
  subst hv
  rcases sp with _ | v
  · exact zi_t rfl (zwi ⟨rfl, fun h => absurd h (by decide), hq⟩)
  · show zwp (zbnd (nI 0) 1 _) _
    rw [zbnd_nI (by decide) (by decide)]
    exact zwi ⟨rfl, fun _ => rfl, hq⟩
theorem l_look {a1 : Int32} {m_ar : Nat → Int64} {m_tt_diary_cell : Nat → Int32} {m_tt_diary_figure : Nat → Int32} {m_tt_diary_hours : Nat → Int32} {m_tt_diary_notes : Int32} {m_tt_guesses_first : Int32} {m_tt_guesses_many : Int32} {m_tt_guesses_places : Nat → Int64} {m_tt_guesses_trial_cell : Nat → Int32} {m_tt_guesses_trial_figures : Int32} {m_tt_guesses_trial_held : Nat → Int32} {m_tt_guesses_trial_hour : Int32} {m_tt_guesses_trial_lead : Nat → Int32} {m_tt_guesses_trial_pence : Int32} {m_tt_guesses_trial_sore : Nat → Int32} {m_tt_guesses_trial_walls : Int64} {m_tt_mover_values : Nat → Int32} {m_tt_now_cell : Nat → Int32} {m_tt_now_figures : Int32} {m_tt_now_held : Nat → Int32} {m_tt_now_hour : Int32} {m_tt_now_lead : Nat → Int32} {m_tt_now_pence : Int32} {m_tt_now_sore : Nat → Int32} {m_tt_now_walls : Int64} {m_tt_plan_dullBelow : Int32} {m_tt_plan_figures : Int32} {m_tt_plan_goes_code : Nat → Int32} {m_tt_plan_goes_size : Int32} {m_tt_plan_goes_stack : Nat → Int32} {m_tt_plan_height : Int32} {m_tt_plan_hurts_code : Nat → Int32} {m_tt_plan_hurts_size : Int32} {m_tt_plan_hurts_stack : Nat → Int32} {m_tt_plan_light : Nat → Int32} {m_tt_plan_lights : Int32} {m_tt_plan_steps : Nat → Int32} {m_tt_plan_way : Nat → Int32} {m_tt_plan_width : Int32} {sp : Option Int32} {Q : Int32 × Int32 × (Nat → Int64) × (Nat → Int32) × Int32 × (Nat → Int32) × Int32 × (Nat → Int32) × Int32 × (Nat → Int32) × Int64 × (Nat → Int32) × (Nat → Int32) × (Nat → Int32) → Prop} (h : zwp (f_X11_look a1 (m_tt_diary_cell) (m_tt_diary_figure) (m_tt_diary_hours) (m_tt_diary_notes) (m_tt_guesses_first) (m_tt_guesses_many) (m_tt_guesses_places) (m_tt_guesses_trial_cell) (m_tt_guesses_trial_figures) (m_tt_guesses_trial_held) (m_tt_guesses_trial_hour) (m_tt_guesses_trial_lead) (m_tt_guesses_trial_pence) (m_tt_guesses_trial_sore) (m_tt_guesses_trial_walls) (m_tt_mover_values) (m_tt_now_cell) (m_tt_now_figures) (m_tt_now_held) (m_tt_now_hour) (m_tt_now_lead) (m_tt_now_pence) (m_tt_now_sore) (m_tt_now_walls) (m_tt_plan_dullBelow) (m_tt_plan_figures) (m_tt_plan_goes_code) (m_tt_plan_goes_size) (m_tt_plan_goes_stack) (m_tt_plan_height) (m_tt_plan_hurts_code) (m_tt_plan_hurts_size) (m_tt_plan_hurts_stack) (m_tt_plan_light) (m_tt_plan_lights) (m_tt_plan_steps) (m_tt_plan_way) (m_tt_plan_width)) (fun r => r.1 = toN sp ∧ Q r.2)) : zwp (f_L_look a1 1 m_ar m_tt_diary_cell m_tt_diary_figure m_tt_diary_hours m_tt_diary_notes m_tt_guesses_first m_tt_guesses_many m_tt_guesses_places m_tt_guesses_trial_cell m_tt_guesses_trial_figures m_tt_guesses_trial_held m_tt_guesses_trial_hour m_tt_guesses_trial_lead m_tt_guesses_trial_pence m_tt_guesses_trial_sore m_tt_guesses_trial_walls m_tt_mover_values m_tt_now_cell m_tt_now_figures m_tt_now_held m_tt_now_hour m_tt_now_lead m_tt_now_pence m_tt_now_sore m_tt_now_walls m_tt_plan_dullBelow m_tt_plan_figures m_tt_plan_goes_code m_tt_plan_goes_size m_tt_plan_goes_stack m_tt_plan_height m_tt_plan_hurts_code m_tt_plan_hurts_size m_tt_plan_hurts_stack m_tt_plan_light m_tt_plan_lights m_tt_plan_steps m_tt_plan_way m_tt_plan_width) (fun r => r.1 = toU sp ∧ (toU sp = 0 → r.2.1 0 = (toW sp).toInt64) ∧ Q r.2.2) := by
  unfold f_L_look
  refine zi_bind (zwp_mono h ?_)
  rintro ⟨v, o0, o1, o2, o3, o4, o5, o6, o7, o8, o9, o10, o11, o12, o13⟩ ⟨hv, hq⟩
  dsimp only at hv hq
  subst hv
  rcases sp with _ | v
  · exact zi_t rfl (zwi ⟨rfl, fun h => absurd h (by decide), hq⟩)
  · show zwp (zbnd (nI 0) 1 _) _
    rw [zbnd_nI (by decide) (by decide)]
    exact zwi ⟨rfl, fun _ => rfl, hq⟩
theorem l_clouds {a1 : Int32} {a2 : Int32} {a3 : Int32} {a4 : Int32} {m_ar : Nat → Int64} {m_tt_future_cell : Nat → Int32} {m_tt_future_figures : Int32} {m_tt_future_held : Nat → Int32} {m_tt_future_hour : Int32} {m_tt_future_lead : Nat → Int32} {m_tt_future_pence : Int32} {m_tt_future_sore : Nat → Int32} {m_tt_future_walls : Int64} {m_tt_mover_values : Nat → Int32} {m_tt_now_cell : Nat → Int32} {m_tt_now_figures : Int32} {m_tt_now_held : Nat → Int32} {m_tt_now_hour : Int32} {m_tt_now_lead : Nat → Int32} {m_tt_now_pence : Int32} {m_tt_now_sore : Nat → Int32} {m_tt_now_walls : Int64} {m_tt_plan_figures : Int32} {m_tt_plan_goes_code : Nat → Int32} {m_tt_plan_goes_size : Int32} {m_tt_plan_goes_stack : Nat → Int32} {m_tt_plan_height : Int32} {m_tt_plan_hurts_code : Nat → Int32} {m_tt_plan_hurts_size : Int32} {m_tt_plan_hurts_stack : Nat → Int32} {m_tt_plan_light : Nat → Int32} {m_tt_plan_lights : Int32} {m_tt_plan_steps : Nat → Int32} {m_tt_plan_way : Nat → Int32} {m_tt_plan_width : Int32} {sp : An} {Q : (Nat → Int32) × Int32 × (Nat → Int32) × Int32 × (Nat → Int32) × Int32 × (Nat → Int32) × Int64 × (Nat → Int32) × (Nat → Int32) × (Nat → Int32) → Prop} (h : zwp (f_X11_clouds a1 a2 a3 a4 (m_tt_future_cell) (m_tt_future_figures) (m_tt_future_held) (m_tt_future_hour) (m_tt_future_lead) (m_tt_future_pence) (m_tt_future_sore) (m_tt_future_walls) (m_tt_mover_values) (m_tt_now_cell) (m_tt_now_figures) (m_tt_now_held) (m_tt_now_hour) (m_tt_now_lead) (m_tt_now_pence) (m_tt_now_sore) (m_tt_now_walls) (m_tt_plan_figures) (m_tt_plan_goes_code) (m_tt_plan_goes_size) (m_tt_plan_goes_stack) (m_tt_plan_height) (m_tt_plan_hurts_code) (m_tt_plan_hurts_size) (m_tt_plan_hurts_stack) (m_tt_plan_light) (m_tt_plan_lights) (m_tt_plan_steps) (m_tt_plan_way) (m_tt_plan_width)) (fun r => r.1 = toC sp ∧ Q r.2)) : zwp (f_L_clouds a1 a2 a3 a4 1 m_ar m_tt_future_cell m_tt_future_figures m_tt_future_held m_tt_future_hour m_tt_future_lead m_tt_future_pence m_tt_future_sore m_tt_future_walls m_tt_mover_values m_tt_now_cell m_tt_now_figures m_tt_now_held m_tt_now_hour m_tt_now_lead m_tt_now_pence m_tt_now_sore m_tt_now_walls m_tt_plan_figures m_tt_plan_goes_code m_tt_plan_goes_size m_tt_plan_goes_stack m_tt_plan_height m_tt_plan_hurts_code m_tt_plan_hurts_size m_tt_plan_hurts_stack m_tt_plan_light m_tt_plan_lights m_tt_plan_steps m_tt_plan_way m_tt_plan_width) (fun r => r.1 = toT sp ∧ (toT sp = 0 → r.2.1 0 = (toV sp).toInt64) ∧ Q r.2.2) := by
  unfold f_L_clouds
  refine zi_bind (zwp_mono h ?_)
  rintro ⟨v, o0, o1, o2, o3, o4, o5, o6, o7, o8, o9, o10⟩ ⟨hv, hq⟩
  dsimp only at hv hq
  subst hv
  rcases sp with v | c
  · show zwp (zbnd (nI 0) 1 _) _
    rw [zbnd_nI (by decide) (by decide)]
    exact zwi ⟨rfl, fun _ => rfl, hq⟩
  · cases c with
    | false => exact zi_t rfl (zwi ⟨rfl, fun h => absurd h (by decide), hq⟩)
    | true => exact zi_f x_ne (zi_t rfl (zwi ⟨rfl, fun h => absurd h (by decide), hq⟩))
theorem l_game {a1 : Int32} {a2 : Int32} {a3 : Int32} {m_ar : Nat → Int64} {m_tt_future_cell : Nat → Int32} {m_tt_future_figures : Int32} {m_tt_future_held : Nat → Int32} {m_tt_future_hour : Int32} {m_tt_future_lead : Nat → Int32} {m_tt_future_pence : Int32} {m_tt_future_sore : Nat → Int32} {m_tt_future_walls : Int64} {m_tt_gains : Nat → Int32} {m_tt_mover_values : Nat → Int32} {m_tt_now_cell : Nat → Int32} {m_tt_now_figures : Int32} {m_tt_now_held : Nat → Int32} {m_tt_now_hour : Int32} {m_tt_now_lead : Nat → Int32} {m_tt_now_pence : Int32} {m_tt_now_sore : Nat → Int32} {m_tt_now_walls : Int64} {m_tt_plan_dullBelow : Int32} {m_tt_plan_figures : Int32} {m_tt_plan_goes_code : Nat → Int32} {m_tt_plan_goes_size : Int32} {m_tt_plan_goes_stack : Nat → Int32} {m_tt_plan_height : Int32} {m_tt_plan_hurts_code : Nat → Int32} {m_tt_plan_hurts_size : Int32} {m_tt_plan_hurts_stack : Nat → Int32} {m_tt_plan_light : Nat → Int32} {m_tt_plan_lights : Int32} {m_tt_plan_steps : Nat → Int32} {m_tt_plan_way : Nat → Int32} {m_tt_plan_width : Int32} {sp : An} {Q : (Nat → Int32) × Int32 × (Nat → Int32) × Int32 × (Nat → Int32) × Int32 × (Nat → Int32) × Int64 × (Nat → Int32) × (Nat → Int32) × (Nat → Int32) × (Nat → Int32) → Prop} (h : zwp (f_X11_game a1 a2 a3 (m_tt_future_cell) (m_tt_future_figures) (m_tt_future_held) (m_tt_future_hour) (m_tt_future_lead) (m_tt_future_pence) (m_tt_future_sore) (m_tt_future_walls) (m_tt_gains) (m_tt_mover_values) (m_tt_now_cell) (m_tt_now_figures) (m_tt_now_held) (m_tt_now_hour) (m_tt_now_lead) (m_tt_now_pence) (m_tt_now_sore) (m_tt_now_walls) (m_tt_plan_dullBelow) (m_tt_plan_figures) (m_tt_plan_goes_code) (m_tt_plan_goes_size) (m_tt_plan_goes_stack) (m_tt_plan_height) (m_tt_plan_hurts_code) (m_tt_plan_hurts_size) (m_tt_plan_hurts_stack) (m_tt_plan_light) (m_tt_plan_lights) (m_tt_plan_steps) (m_tt_plan_way) (m_tt_plan_width)) (fun r => r.1 = toC sp ∧ Q r.2)) : zwp (f_L_game a1 a2 a3 1 m_ar m_tt_future_cell m_tt_future_figures m_tt_future_held m_tt_future_hour m_tt_future_lead m_tt_future_pence m_tt_future_sore m_tt_future_walls m_tt_gains m_tt_mover_values m_tt_now_cell m_tt_now_figures m_tt_now_held m_tt_now_hour m_tt_now_lead m_tt_now_pence m_tt_now_sore m_tt_now_walls m_tt_plan_dullBelow m_tt_plan_figures m_tt_plan_goes_code m_tt_plan_goes_size m_tt_plan_goes_stack m_tt_plan_height m_tt_plan_hurts_code m_tt_plan_hurts_size m_tt_plan_hurts_stack m_tt_plan_light m_tt_plan_lights m_tt_plan_steps m_tt_plan_way m_tt_plan_width) (fun r => r.1 = toT sp ∧ (toT sp = 0 → r.2.1 0 = (toV sp).toInt64) ∧ Q r.2.2) := by
  unfold f_L_game
  refine zi_bind (zwp_mono h ?_)
  rintro ⟨v, o0, o1, o2, o3, o4, o5, o6, o7, o8, o9, o10, o11⟩ ⟨hv, hq⟩
  dsimp only at hv hq
  subst hv
  rcases sp with v | c
  · show zwp (zbnd (nI 0) 1 _) _
    rw [zbnd_nI (by decide) (by decide)]
    exact zwi ⟨rfl, fun _ => rfl, hq⟩
  · cases c with
    | false => exact zi_t rfl (zwi ⟨rfl, fun h => absurd h (by decide), hq⟩)
    | true => exact zi_f x_ne (zi_t rfl (zwi ⟨rfl, fun h => absurd h (by decide), hq⟩))
theorem l_years {a1 : Int32} {a2 : Int32} {a3 : Int32} {m_ar : Nat → Int64} {m_tt_future_cell : Nat → Int32} {m_tt_future_figures : Int32} {m_tt_future_held : Nat → Int32} {m_tt_future_hour : Int32} {m_tt_future_lead : Nat → Int32} {m_tt_future_pence : Int32} {m_tt_future_sore : Nat → Int32} {m_tt_future_walls : Int64} {m_tt_mover_values : Nat → Int32} {m_tt_now_cell : Nat → Int32} {m_tt_now_figures : Int32} {m_tt_now_held : Nat → Int32} {m_tt_now_hour : Int32} {m_tt_now_lead : Nat → Int32} {m_tt_now_pence : Int32} {m_tt_now_sore : Nat → Int32} {m_tt_now_walls : Int64} {m_tt_plan_dullBelow : Int32} {m_tt_plan_figures : Int32} {m_tt_plan_goes_code : Nat → Int32} {m_tt_plan_goes_size : Int32} {m_tt_plan_goes_stack : Nat → Int32} {m_tt_plan_height : Int32} {m_tt_plan_hurts_code : Nat → Int32} {m_tt_plan_hurts_size : Int32} {m_tt_plan_hurts_stack : Nat → Int32} {m_tt_plan_light : Nat → Int32} {m_tt_plan_lights : Int32} {m_tt_plan_steps : Nat → Int32} {m_tt_plan_way : Nat → Int32} {m_tt_plan_width : Int32} {m_tt_seed : Int32} {sp : An} {Q : (Nat → Int32) × Int32 × (Nat → Int32) × Int32 × (Nat → Int32) × Int32 × (Nat → Int32) × Int64 × (Nat → Int32) × (Nat → Int32) × (Nat → Int32) × Int32 → Prop} (h : zwp (f_X11_years a1 a2 a3 (m_tt_future_cell) (m_tt_future_figures) (m_tt_future_held) (m_tt_future_hour) (m_tt_future_lead) (m_tt_future_pence) (m_tt_future_sore) (m_tt_future_walls) (m_tt_mover_values) (m_tt_now_cell) (m_tt_now_figures) (m_tt_now_held) (m_tt_now_hour) (m_tt_now_lead) (m_tt_now_pence) (m_tt_now_sore) (m_tt_now_walls) (m_tt_plan_dullBelow) (m_tt_plan_figures) (m_tt_plan_goes_code) (m_tt_plan_goes_size) (m_tt_plan_goes_stack) (m_tt_plan_height) (m_tt_plan_hurts_code) (m_tt_plan_hurts_size) (m_tt_plan_hurts_stack) (m_tt_plan_light) (m_tt_plan_lights) (m_tt_plan_steps) (m_tt_plan_way) (m_tt_plan_width) (m_tt_seed)) (fun r => r.1 = toC sp ∧ Q r.2)) : zwp (f_L_years a1 a2 a3 1 m_ar m_tt_future_cell m_tt_future_figures m_tt_future_held m_tt_future_hour m_tt_future_lead m_tt_future_pence m_tt_future_sore m_tt_future_walls m_tt_mover_values m_tt_now_cell m_tt_now_figures m_tt_now_held m_tt_now_hour m_tt_now_lead m_tt_now_pence m_tt_now_sore m_tt_now_walls m_tt_plan_dullBelow m_tt_plan_figures m_tt_plan_goes_code m_tt_plan_goes_size m_tt_plan_goes_stack m_tt_plan_height m_tt_plan_hurts_code m_tt_plan_hurts_size m_tt_plan_hurts_stack m_tt_plan_light m_tt_plan_lights m_tt_plan_steps m_tt_plan_way m_tt_plan_width m_tt_seed) (fun r => r.1 = toT sp ∧ (toT sp = 0 → r.2.1 0 = (toV sp).toInt64) ∧ Q r.2.2) := by
  unfold f_L_years
  refine zi_bind (zwp_mono h ?_)
  rintro ⟨v, o0, o1, o2, o3, o4, o5, o6, o7, o8, o9, o10, o11⟩ ⟨hv, hq⟩
  dsimp only at hv hq
  subst hv
  rcases sp with v | c
  · show zwp (zbnd (nI 0) 1 _) _
    rw [zbnd_nI (by decide) (by decide)]
    exact zwi ⟨rfl, fun _ => rfl, hq⟩
  · cases c with
    | false => exact zi_t rfl (zwi ⟨rfl, fun h => absurd h (by decide), hq⟩)
    | true => exact zi_f x_ne (zi_t rfl (zwi ⟨rfl, fun h => absurd h (by decide), hq⟩))
theorem l_later {a1 : Int32} {a2 : Int32} {m_ar : Nat → Int64} {m_tt_future_cell : Nat → Int32} {m_tt_future_figures : Int32} {m_tt_future_held : Nat → Int32} {m_tt_future_hour : Int32} {m_tt_future_lead : Nat → Int32} {m_tt_future_pence : Int32} {m_tt_future_sore : Nat → Int32} {m_tt_future_walls : Int64} {m_tt_mover_values : Nat → Int32} {m_tt_now_cell : Nat → Int32} {m_tt_now_figures : Int32} {m_tt_now_held : Nat → Int32} {m_tt_now_hour : Int32} {m_tt_now_lead : Nat → Int32} {m_tt_now_pence : Int32} {m_tt_now_sore : Nat → Int32} {m_tt_now_walls : Int64} {m_tt_plan_dullBelow : Int32} {m_tt_plan_figures : Int32} {m_tt_plan_goes_code : Nat → Int32} {m_tt_plan_goes_size : Int32} {m_tt_plan_goes_stack : Nat → Int32} {m_tt_plan_height : Int32} {m_tt_plan_hurts_code : Nat → Int32} {m_tt_plan_hurts_size : Int32} {m_tt_plan_hurts_stack : Nat → Int32} {m_tt_plan_light : Nat → Int32} {m_tt_plan_lights : Int32} {m_tt_plan_steps : Nat → Int32} {m_tt_plan_way : Nat → Int32} {m_tt_plan_width : Int32} {m_tt_visits : Nat → Int32} {sp : An} {Q : (Nat → Int32) × Int32 × (Nat → Int32) × Int32 × (Nat → Int32) × Int32 × (Nat → Int32) × Int64 × (Nat → Int32) × (Nat → Int32) × (Nat → Int32) × (Nat → Int32) → Prop} (h : zwp (f_X11_later a1 a2 (m_tt_future_cell) (m_tt_future_figures) (m_tt_future_held) (m_tt_future_hour) (m_tt_future_lead) (m_tt_future_pence) (m_tt_future_sore) (m_tt_future_walls) (m_tt_mover_values) (m_tt_now_cell) (m_tt_now_figures) (m_tt_now_held) (m_tt_now_hour) (m_tt_now_lead) (m_tt_now_pence) (m_tt_now_sore) (m_tt_now_walls) (m_tt_plan_dullBelow) (m_tt_plan_figures) (m_tt_plan_goes_code) (m_tt_plan_goes_size) (m_tt_plan_goes_stack) (m_tt_plan_height) (m_tt_plan_hurts_code) (m_tt_plan_hurts_size) (m_tt_plan_hurts_stack) (m_tt_plan_light) (m_tt_plan_lights) (m_tt_plan_steps) (m_tt_plan_way) (m_tt_plan_width) (m_tt_visits)) (fun r => r.1 = toC sp ∧ Q r.2)) : zwp (f_L_later a1 a2 1 m_ar m_tt_future_cell m_tt_future_figures m_tt_future_held m_tt_future_hour m_tt_future_lead m_tt_future_pence m_tt_future_sore m_tt_future_walls m_tt_mover_values m_tt_now_cell m_tt_now_figures m_tt_now_held m_tt_now_hour m_tt_now_lead m_tt_now_pence m_tt_now_sore m_tt_now_walls m_tt_plan_dullBelow m_tt_plan_figures m_tt_plan_goes_code m_tt_plan_goes_size m_tt_plan_goes_stack m_tt_plan_height m_tt_plan_hurts_code m_tt_plan_hurts_size m_tt_plan_hurts_stack m_tt_plan_light m_tt_plan_lights m_tt_plan_steps m_tt_plan_way m_tt_plan_width m_tt_visits) (fun r => r.1 = toT sp ∧ (toT sp = 0 → r.2.1 0 = (toV sp).toInt64) ∧ Q r.2.2) := by
  unfold f_L_later
  refine zi_bind (zwp_mono h ?_)
  rintro ⟨v, o0, o1, o2, o3, o4, o5, o6, o7, o8, o9, o10, o11⟩ ⟨hv, hq⟩
  dsimp only at hv hq
  subst hv
  rcases sp with v | c
  · show zwp (zbnd (nI 0) 1 _) _
    rw [zbnd_nI (by decide) (by decide)]
    exact zwi ⟨rfl, fun _ => rfl, hq⟩
  · cases c with
    | false => exact zi_t rfl (zwi ⟨rfl, fun h => absurd h (by decide), hq⟩)
    | true => exact zi_f x_ne (zi_t rfl (zwi ⟨rfl, fun h => absurd h (by decide), hq⟩))
theorem l_together {a1 : Int32} {a2 : Int32} {a3 : Int32} {m_ar : Nat → Int64} {m_tt_future_cell : Nat → Int32} {m_tt_future_figures : Int32} {m_tt_future_held : Nat → Int32} {m_tt_future_hour : Int32} {m_tt_future_lead : Nat → Int32} {m_tt_future_pence : Int32} {m_tt_future_sore : Nat → Int32} {m_tt_future_walls : Int64} {m_tt_mover_values : Nat → Int32} {m_tt_now_cell : Nat → Int32} {m_tt_now_figures : Int32} {m_tt_now_held : Nat → Int32} {m_tt_now_hour : Int32} {m_tt_now_lead : Nat → Int32} {m_tt_now_pence : Int32} {m_tt_now_sore : Nat → Int32} {m_tt_now_walls : Int64} {m_tt_plan_dullBelow : Int32} {m_tt_plan_figures : Int32} {m_tt_plan_goes_code : Nat → Int32} {m_tt_plan_goes_size : Int32} {m_tt_plan_goes_stack : Nat → Int32} {m_tt_plan_height : Int32} {m_tt_plan_hurts_code : Nat → Int32} {m_tt_plan_hurts_size : Int32} {m_tt_plan_hurts_stack : Nat → Int32} {m_tt_plan_light : Nat → Int32} {m_tt_plan_lights : Int32} {m_tt_plan_steps : Nat → Int32} {m_tt_plan_way : Nat → Int32} {m_tt_plan_width : Int32} {sp : An} {Q : (Nat → Int32) × Int32 × (Nat → Int32) × Int32 × (Nat → Int32) × Int32 × (Nat → Int32) × Int64 × (Nat → Int32) × (Nat → Int32) × (Nat → Int32) → Prop} (h : zwp (f_X11_together a1 a2 a3 (m_tt_future_cell) (m_tt_future_figures) (m_tt_future_held) (m_tt_future_hour) (m_tt_future_lead) (m_tt_future_pence) (m_tt_future_sore) (m_tt_future_walls) (m_tt_mover_values) (m_tt_now_cell) (m_tt_now_figures) (m_tt_now_held) (m_tt_now_hour) (m_tt_now_lead) (m_tt_now_pence) (m_tt_now_sore) (m_tt_now_walls) (m_tt_plan_dullBelow) (m_tt_plan_figures) (m_tt_plan_goes_code) (m_tt_plan_goes_size) (m_tt_plan_goes_stack) (m_tt_plan_height) (m_tt_plan_hurts_code) (m_tt_plan_hurts_size) (m_tt_plan_hurts_stack) (m_tt_plan_light) (m_tt_plan_lights) (m_tt_plan_steps) (m_tt_plan_way) (m_tt_plan_width)) (fun r => r.1 = toC sp ∧ Q r.2)) : zwp (f_L_together a1 a2 a3 1 m_ar m_tt_future_cell m_tt_future_figures m_tt_future_held m_tt_future_hour m_tt_future_lead m_tt_future_pence m_tt_future_sore m_tt_future_walls m_tt_mover_values m_tt_now_cell m_tt_now_figures m_tt_now_held m_tt_now_hour m_tt_now_lead m_tt_now_pence m_tt_now_sore m_tt_now_walls m_tt_plan_dullBelow m_tt_plan_figures m_tt_plan_goes_code m_tt_plan_goes_size m_tt_plan_goes_stack m_tt_plan_height m_tt_plan_hurts_code m_tt_plan_hurts_size m_tt_plan_hurts_stack m_tt_plan_light m_tt_plan_lights m_tt_plan_steps m_tt_plan_way m_tt_plan_width) (fun r => r.1 = toT sp ∧ (toT sp = 0 → r.2.1 0 = (toV sp).toInt64) ∧ Q r.2.2) := by
  unfold f_L_together
  refine zi_bind (zwp_mono h ?_)
  rintro ⟨v, o0, o1, o2, o3, o4, o5, o6, o7, o8, o9, o10⟩ ⟨hv, hq⟩
  dsimp only at hv hq
  subst hv
  rcases sp with v | c
  · show zwp (zbnd (nI 0) 1 _) _
    rw [zbnd_nI (by decide) (by decide)]
    exact zwi ⟨rfl, fun _ => rfl, hq⟩
  · cases c with
    | false => exact zi_t rfl (zwi ⟨rfl, fun h => absurd h (by decide), hq⟩)
    | true => exact zi_f x_ne (zi_t rfl (zwi ⟨rfl, fun h => absurd h (by decide), hq⟩))
theorem l_quiet {a1 : Int32} {a2 : Int32} {m_ar : Nat → Int64} {m_tt_future_cell : Nat → Int32} {m_tt_future_figures : Int32} {m_tt_future_held : Nat → Int32} {m_tt_future_hour : Int32} {m_tt_future_lead : Nat → Int32} {m_tt_future_pence : Int32} {m_tt_future_sore : Nat → Int32} {m_tt_future_walls : Int64} {m_tt_mover_values : Nat → Int32} {m_tt_now_cell : Nat → Int32} {m_tt_now_figures : Int32} {m_tt_now_held : Nat → Int32} {m_tt_now_hour : Int32} {m_tt_now_lead : Nat → Int32} {m_tt_now_pence : Int32} {m_tt_now_sore : Nat → Int32} {m_tt_now_walls : Int64} {m_tt_plan_dullBelow : Int32} {m_tt_plan_figures : Int32} {m_tt_plan_goes_code : Nat → Int32} {m_tt_plan_goes_size : Int32} {m_tt_plan_goes_stack : Nat → Int32} {m_tt_plan_height : Int32} {m_tt_plan_hurts_code : Nat → Int32} {m_tt_plan_hurts_size : Int32} {m_tt_plan_hurts_stack : Nat → Int32} {m_tt_plan_light : Nat → Int32} {m_tt_plan_lights : Int32} {m_tt_plan_steps : Nat → Int32} {m_tt_plan_way : Nat → Int32} {m_tt_plan_width : Int32} {sp : An} {Q : (Nat → Int32) × Int32 × (Nat → Int32) × Int32 × (Nat → Int32) × Int32 × (Nat → Int32) × Int64 × (Nat → Int32) × (Nat → Int32) × (Nat → Int32) → Prop} (h : zwp (f_X11_quiet a1 a2 (m_tt_future_cell) (m_tt_future_figures) (m_tt_future_held) (m_tt_future_hour) (m_tt_future_lead) (m_tt_future_pence) (m_tt_future_sore) (m_tt_future_walls) (m_tt_mover_values) (m_tt_now_cell) (m_tt_now_figures) (m_tt_now_held) (m_tt_now_hour) (m_tt_now_lead) (m_tt_now_pence) (m_tt_now_sore) (m_tt_now_walls) (m_tt_plan_dullBelow) (m_tt_plan_figures) (m_tt_plan_goes_code) (m_tt_plan_goes_size) (m_tt_plan_goes_stack) (m_tt_plan_height) (m_tt_plan_hurts_code) (m_tt_plan_hurts_size) (m_tt_plan_hurts_stack) (m_tt_plan_light) (m_tt_plan_lights) (m_tt_plan_steps) (m_tt_plan_way) (m_tt_plan_width)) (fun r => r.1 = toC sp ∧ Q r.2)) : zwp (f_L_quiet a1 a2 1 m_ar m_tt_future_cell m_tt_future_figures m_tt_future_held m_tt_future_hour m_tt_future_lead m_tt_future_pence m_tt_future_sore m_tt_future_walls m_tt_mover_values m_tt_now_cell m_tt_now_figures m_tt_now_held m_tt_now_hour m_tt_now_lead m_tt_now_pence m_tt_now_sore m_tt_now_walls m_tt_plan_dullBelow m_tt_plan_figures m_tt_plan_goes_code m_tt_plan_goes_size m_tt_plan_goes_stack m_tt_plan_height m_tt_plan_hurts_code m_tt_plan_hurts_size m_tt_plan_hurts_stack m_tt_plan_light m_tt_plan_lights m_tt_plan_steps m_tt_plan_way m_tt_plan_width) (fun r => r.1 = toT sp ∧ (toT sp = 0 → r.2.1 0 = (toV sp).toInt64) ∧ Q r.2.2) := by
  unfold f_L_quiet
  refine zi_bind (zwp_mono h ?_)
  rintro ⟨v, o0, o1, o2, o3, o4, o5, o6, o7, o8, o9, o10⟩ ⟨hv, hq⟩
  dsimp only at hv hq
  subst hv
  rcases sp with v | c
  · show zwp (zbnd (nI 0) 1 _) _
    rw [zbnd_nI (by decide) (by decide)]
    exact zwi ⟨rfl, fun _ => rfl, hq⟩
  · cases c with
    | false => exact zi_t rfl (zwi ⟨rfl, fun h => absurd h (by decide), hq⟩)
    | true => exact zi_f x_ne (zi_t rfl (zwi ⟨rfl, fun h => absurd h (by decide), hq⟩))
theorem l_gone {a1 : Int32} {a2 : Int32} {m_ar : Nat → Int64} {m_tt_future_cell : Nat → Int32} {m_tt_future_figures : Int32} {m_tt_future_held : Nat → Int32} {m_tt_future_hour : Int32} {m_tt_future_lead : Nat → Int32} {m_tt_future_pence : Int32} {m_tt_future_sore : Nat → Int32} {m_tt_future_walls : Int64} {m_tt_mover_values : Nat → Int32} {m_tt_now_cell : Nat → Int32} {m_tt_now_figures : Int32} {m_tt_now_held : Nat → Int32} {m_tt_now_hour : Int32} {m_tt_now_lead : Nat → Int32} {m_tt_now_pence : Int32} {m_tt_now_sore : Nat → Int32} {m_tt_now_walls : Int64} {m_tt_plan_dullBelow : Int32} {m_tt_plan_figures : Int32} {m_tt_plan_goes_code : Nat → Int32} {m_tt_plan_goes_size : Int32} {m_tt_plan_goes_stack : Nat → Int32} {m_tt_plan_height : Int32} {m_tt_plan_hurts_code : Nat → Int32} {m_tt_plan_hurts_size : Int32} {m_tt_plan_hurts_stack : Nat → Int32} {m_tt_plan_light : Nat → Int32} {m_tt_plan_lights : Int32} {m_tt_plan_steps : Nat → Int32} {m_tt_plan_way : Nat → Int32} {m_tt_plan_width : Int32} {sp : An} {Q : (Nat → Int32) × Int32 × (Nat → Int32) × Int32 × (Nat → Int32) × Int32 × (Nat → Int32) × Int64 × (Nat → Int32) × (Nat → Int32) × (Nat → Int32) → Prop} (h : zwp (f_X11_gone a1 a2 (m_tt_future_cell) (m_tt_future_figures) (m_tt_future_held) (m_tt_future_hour) (m_tt_future_lead) (m_tt_future_pence) (m_tt_future_sore) (m_tt_future_walls) (m_tt_mover_values) (m_tt_now_cell) (m_tt_now_figures) (m_tt_now_held) (m_tt_now_hour) (m_tt_now_lead) (m_tt_now_pence) (m_tt_now_sore) (m_tt_now_walls) (m_tt_plan_dullBelow) (m_tt_plan_figures) (m_tt_plan_goes_code) (m_tt_plan_goes_size) (m_tt_plan_goes_stack) (m_tt_plan_height) (m_tt_plan_hurts_code) (m_tt_plan_hurts_size) (m_tt_plan_hurts_stack) (m_tt_plan_light) (m_tt_plan_lights) (m_tt_plan_steps) (m_tt_plan_way) (m_tt_plan_width)) (fun r => r.1 = toC sp ∧ Q r.2)) : zwp (f_L_gone a1 a2 1 m_ar m_tt_future_cell m_tt_future_figures m_tt_future_held m_tt_future_hour m_tt_future_lead m_tt_future_pence m_tt_future_sore m_tt_future_walls m_tt_mover_values m_tt_now_cell m_tt_now_figures m_tt_now_held m_tt_now_hour m_tt_now_lead m_tt_now_pence m_tt_now_sore m_tt_now_walls m_tt_plan_dullBelow m_tt_plan_figures m_tt_plan_goes_code m_tt_plan_goes_size m_tt_plan_goes_stack m_tt_plan_height m_tt_plan_hurts_code m_tt_plan_hurts_size m_tt_plan_hurts_stack m_tt_plan_light m_tt_plan_lights m_tt_plan_steps m_tt_plan_way m_tt_plan_width) (fun r => r.1 = toT sp ∧ (toT sp = 0 → r.2.1 0 = (toV sp).toInt64) ∧ Q r.2.2) := by
  unfold f_L_gone
  refine zi_bind (zwp_mono h ?_)
  rintro ⟨v, o0, o1, o2, o3, o4, o5, o6, o7, o8, o9, o10⟩ ⟨hv, hq⟩
  dsimp only at hv hq
  subst hv
  rcases sp with v | c
  · show zwp (zbnd (nI 0) 1 _) _
    rw [zbnd_nI (by decide) (by decide)]
    exact zwi ⟨rfl, fun _ => rfl, hq⟩
  · cases c with
    | false => exact zi_t rfl (zwi ⟨rfl, fun h => absurd h (by decide), hq⟩)
    | true => exact zi_f x_ne (zi_t rfl (zwi ⟨rfl, fun h => absurd h (by decide), hq⟩))
