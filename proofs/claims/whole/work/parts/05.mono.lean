theorem pm_o_m {α : Type} {o : Option α} {f g : α → Prop} (h : ∀ x, f x → g x) : pm_o o f → pm_o o g := by
  cases o with
  | none => exact id
  | some x => exact h x
theorem pm_gi_m {ls : pL} {i : Nat} {f g : Int32 → Prop} (h : ∀ x, f x → g x) : pm_gi ls i f → pm_gi ls i g := by
  unfold pm_gi; split
  · exact h _
  · exact id
theorem pm_gl_m {ls : pL} {i : Nat} {f g : Int64 → Prop} (h : ∀ x, f x → g x) : pm_gl ls i f → pm_gl ls i g := by
  unfold pm_gl; split
  · exact h _
  · exact id
theorem pm_ga_m {ls : pL} {i : Nat} {f g : Value → Prop} (h : ∀ x, f x → g x) : pm_ga ls i f → pm_ga ls i g := by
  unfold pm_ga; split
  · exact fun q => ⟨q.1, h _ q.2⟩
  · exact id
theorem pm_i_m {st : List Value} {f g : Int32 → List Value → Prop} (h : ∀ x r, f x r → g x r) : pm_i st f → pm_i st g := by
  unfold pm_i; split
  · exact h _ _
  · exact id
theorem pm_l_m {st : List Value} {f g : Int64 → List Value → Prop} (h : ∀ x r, f x r → g x r) : pm_l st f → pm_l st g := by
  unfold pm_l; split
  · exact h _ _
  · exact id
theorem pm_ii_m {st : List Value} {f g : Int32 → Int32 → List Value → Prop} (h : ∀ x y r, f x y r → g x y r) : pm_ii st f → pm_ii st g := by
  unfold pm_ii; split
  · exact h _ _ _
  · exact id
theorem pm_ll_m {st : List Value} {f g : Int64 → Int64 → List Value → Prop} (h : ∀ x y r, f x y r → g x y r) : pm_ll st f → pm_ll st g := by
  unfold pm_ll; split
  · exact h _ _ _
  · exact id
theorem pm_li_m {st : List Value} {f g : Int64 → Int32 → List Value → Prop} (h : ∀ x y r, f x y r → g x y r) : pm_li st f → pm_li st g := by
  unfold pm_li; split
  · exact h _ _ _
  · exact id
theorem pm_a_m {st : List Value} {f g : Value → List Value → Prop} (h : ∀ x r, f x r → g x r) : pm_a st f → pm_a st g := by
  unfold pm_a; split
  · exact fun q => ⟨q.1, h _ _ q.2⟩
  · exact id
theorem pm_r_m {st : List Value} {f g : Nat → List Value → Prop} (h : ∀ x r, f x r → g x r) : pm_r st f → pm_r st g := by
  unfold pm_r; split
  · exact h _ _
  · exact id
theorem pm_vr_m {st : List Value} {f g : Value → Nat → List Value → Prop} (h : ∀ v x r, f v x r → g v x r) : pm_vr st f → pm_vr st g := by
  unfold pm_vr; split
  · exact h _ _ _
  · exact id
theorem pm_ir_m {st : List Value} {f g : Int32 → Nat → List Value → Prop} (h : ∀ v x r, f v x r → g v x r) : pm_ir st f → pm_ir st g := by
  unfold pm_ir; split
  · exact h _ _ _
  · exact id
theorem pm_iir_m {st : List Value} {f g : Int32 → Int32 → Nat → List Value → Prop} (h : ∀ u v x r, f u v x r → g u v x r) : pm_iir st f → pm_iir st g := by
  unfold pm_iir; split
  · exact h _ _ _ _
  · exact id
theorem pm_lir_m {st : List Value} {f g : Int64 → Int32 → Nat → List Value → Prop} (h : ∀ u v x r, f u v x r → g u v x r) : pm_lir st f → pm_lir st g := by
  unfold pm_lir; split
  · exact h _ _ _ _
  · exact id
theorem pm_ob_m {S : pS} {a ci : Nat} {f g : List Value → Prop} (h : ∀ x, f x → g x) : pm_ob S a ci f → pm_ob S a ci g := by
  unfold pm_ob; rintro ⟨h1, h2⟩; refine ⟨h1, ?_⟩; revert h2; split
  · exact fun q => ⟨q.1, h _ q.2⟩
  · exact id
theorem pm_ar_m {S : pS} {a kd : Nat} {f g : Nat → (Nat → Int32) → Prop} (h : ∀ n x, f n x → g n x) : pm_ar S a kd f → pm_ar S a kd g := by
  unfold pm_ar; rintro ⟨h1, h2⟩; refine ⟨h1, ?_⟩; revert h2; split
  · exact fun q => ⟨q.1, h _ _ q.2⟩
  · exact id
theorem pm_aj_m {S : pS} {a : Nat} {f g : Nat → (Nat → Int64) → Prop} (h : ∀ n x, f n x → g n x) : pm_aj S a f → pm_aj S a g := by
  unfold pm_aj; rintro ⟨h1, h2⟩; refine ⟨h1, ?_⟩; revert h2; split
  · exact fun q => ⟨q.1, h _ _ q.2⟩
  · exact id
theorem pm_an_m {S : pS} {a : Nat} {f g : Nat → Prop} (h : ∀ n, f n → g n) : pm_an S a f → pm_an S a g := by
  unfold pm_an; rintro ⟨h1, h2⟩; refine ⟨h1, ?_⟩; revert h2; split
  · exact fun q => ⟨q.1, q.2.1, h _ q.2.2⟩
  · exact fun q => ⟨q.1, h _ q.2⟩
  · exact id
theorem pm_cd_m {c : Jvm.ClassFile.Cond} {x y : Int32} {t f t' f' : Prop} (h1 : t → t') (h2 : f → f') : pm_cd c x y t f → pm_cd c x y t' f' := by
  cases c <;> exact fun q => ⟨fun z => h1 (q.1 z), fun z => h2 (q.2 z)⟩
theorem pm_ix_m {i : Int32} {n : Nat} {f g : Prop} (h : f → g) : pm_ix i n f → pm_ix i n g := fun q => ⟨q.1, h q.2⟩
theorem pm_ar1_m {st : List Value} {n : Nat} {f g : List Value → List Value → Prop} (h : ∀ a r, f a r → g a r) : pm_ar1 st n f → pm_ar1 st n g := fun q => ⟨q.1, h _ _ q.2⟩
theorem pm_sw_m {x lo hi : Int} {pc : Nat} {d : Int} {os : Array Int} {f g : Nat → Prop} (h : ∀ t, f t → g t) : pm_sw x lo hi pc d os f → pm_sw x lo hi pc d os g := by
  unfold pm_sw; split
  · exact fun q => ⟨q.1, h _ q.2⟩
  · exact pm_o_m (fun _ q => ⟨q.1, h _ q.2⟩)
theorem pm_dup_m {st : List Value} {f g : Value → List Value → Prop} (h : ∀ x r, f x r → g x r) : pm_dup st f → pm_dup st g := by
  unfold pm_dup; split
  · exact fun q => ⟨q.1, h _ _ q.2⟩
  · exact id
theorem pm_dup2_m {st : List Value} {f g : Value → Value → List Value → Prop} (h : ∀ x y r, f x y r → g x y r) : pm_dup2 st f → pm_dup2 st g := by
  unfold pm_dup2; split
  · exact fun q => ⟨q.1, q.2.1, h _ _ _ q.2.2⟩
  · exact id
theorem pm_kl_m {o : Option Value} {f g : Int64 → Prop} (h : ∀ x, f x → g x) : pm_kl o f → pm_kl o g := by
  unfold pm_kl; split
  · exact h _
  · exact id
theorem pm_ki_m {o : Option Value} {f g : Value → Prop} (h : ∀ x, f x → g x) : pm_ki o f → pm_ki o g := by
  unfold pm_ki; split
  · exact h _
  · exact h _
  · exact id
theorem pm_t_m {st : List Value} {f g : Nat → List Value → Prop} (h : ∀ x r, f x r → g x r) : pm_t st f → pm_t st g := by
  unfold pm_t; split
  · exact h _ _
  · exact id
theorem pm_cpy_m {S : pS} {st : List Value} {f g : Nat → pE → List Value → Prop} (h : ∀ x e r, f x e r → g x e r) : pm_cpy S st f → pm_cpy S st g := by
  unfold pm_cpy; split
  · exact pm_ar_m (fun _ _ => pm_ar_m (fun _ _ q => ⟨q.1, q.2.1, q.2.2.1, q.2.2.2.1, q.2.2.2.2.1, h _ _ _ q.2.2.2.2.2⟩))
  · exact id
theorem pm_ia_m {C : pC} {S : pS} {st : List Value} {f g : Int32 → List Value → Prop} (h : ∀ x r, f x r → g x r) : pm_ia C S st f → pm_ia C S st g := by
  unfold pm_ia; split
  · exact pm_ar_m (fun _ _ => pm_ix_m (h _ _))
  · exact fun q => ⟨q.1, pm_o_m (fun _ => pm_ix_m (h _ _)) q.2⟩
  · exact id
theorem pm_al_m {C : pC} {S : pS} {st : List Value} {f g : Nat → List Value → Prop} (h : ∀ x r, f x r → g x r) : pm_al C S st f → pm_al C S st g := by
  unfold pm_al; split
  · exact pm_an_m (fun _ => h _ _)
  · exact fun q => ⟨q.1, pm_o_m (fun _ => h _ _) q.2⟩
  · exact id
theorem pm_inv_m {C : pC} {call : pCall} {cost : Nat → Nat × Nat × Bool × Bool} {ak : Bool × Bool} {nxe mc ms : Nat} {Q Q' : pQ} {k k' : pF} (hc : ∀ j as S (Q Q' : pQ), (∀ o S, Q o S → Q' o S) → call j as S Q → call j as S Q') (hq : ∀ o S, Q o S → Q' o S) (hk : ∀ a b c d e f, k a b c d e f → k' a b c d e f) {pc : Nat} {ls : pL} {j : Nat} {as r : List Value} {uc us : Nat} {S : pS} : pm_inv C call cost ak nxe mc ms Q k pc ls j as r uc us S → pm_inv C call cost ak nxe mc ms Q' k' pc ls j as r uc us S := by
  rintro ⟨h1, h2, h3, h4, h5⟩
  refine ⟨h1, h2, h3, h4, hc _ _ _ _ _ (fun o S1 => ?_) h5⟩
  cases o with
  | inl v => exact hk _ _ _ _ _ _
  | inr E =>
    unfold pm_po
    dsimp only
    split
    · exact fun h => ⟨h.1, h.2.1, hq _ _ h.2.2⟩
    · exact hq _ _
    · exact id
theorem pm_st_m {C : pC} {d : Nat} {call : pCall} {cost : Nat → Nat × Nat × Bool × Bool} {ak : Bool × Bool} {nxe mc ms : Nat} {Q Q' : pQ} {k k' : pF} (hc : ∀ j as S (Q Q' : pQ), (∀ o S, Q o S → Q' o S) → call j as S Q → call j as S Q') (hq : ∀ o S, Q o S → Q' o S) (hk : ∀ a b c d e f, k a b c d e f → k' a b c d e f) {pc : Nat} {ls : pL} {st : List Value} {uc us : Nat} {S : pS} {o : Option (Nat × Nat × Nat × Nat)} : pm_o o (fun q => match q.1 with
      | 0 => pm_ar1 st q.2.2.1 (fun as r => pm_inv C call cost ak nxe mc ms Q k pc ls q.2.1 as r uc us S)
      | 4 => 3 ≤ d ∧ pm_cpy S st (fun b e r => r.length ≤ 4 ∧ k (pc + 3) ls r uc us (pm_up S b e))
      | 7 => 2 ≤ d ∧ pm_ii st (fun x y r => r.length ≤ 4 ∧ k (pc + 3) ls (.int (if x < y then y else x) :: r) uc us S)
      | 8 => 2 ≤ d ∧ pm_ii st (fun x y r => r.length ≤ 4 ∧ k (pc + 3) ls (.int (if y < x then y else x) :: r) uc us S)
      | 9 => pm_ar1 st q.2.2.1 (fun as r => pm_inv C call cost ak nxe mc ms Q k pc ls q.2.1 as r uc us S)
      | _ => False) → pm_o o (fun q => match q.1 with
      | 0 => pm_ar1 st q.2.2.1 (fun as r => pm_inv C call cost ak nxe mc ms Q' k' pc ls q.2.1 as r uc us S)
      | 4 => 3 ≤ d ∧ pm_cpy S st (fun b e r => r.length ≤ 4 ∧ k' (pc + 3) ls r uc us (pm_up S b e))
      | 7 => 2 ≤ d ∧ pm_ii st (fun x y r => r.length ≤ 4 ∧ k' (pc + 3) ls (.int (if x < y then y else x) :: r) uc us S)
      | 8 => 2 ≤ d ∧ pm_ii st (fun x y r => r.length ≤ 4 ∧ k' (pc + 3) ls (.int (if y < x then y else x) :: r) uc us S)
      | 9 => pm_ar1 st q.2.2.1 (fun as r => pm_inv C call cost ak nxe mc ms Q' k' pc ls q.2.1 as r uc us S)
      | _ => False) := by
  refine pm_o_m (fun q => ?_)
  obtain ⟨kd, j, n, ci⟩ := q
  dsimp only
  split
  · exact pm_ar1_m (fun _ _ => pm_inv_m hc hq hk)
  · exact fun h => ⟨h.1, pm_cpy_m (fun _ _ _ h => ⟨h.1, hk _ _ _ _ _ _ h.2⟩) h.2⟩
  · exact fun h => ⟨h.1, pm_ii_m (fun _ _ _ h => ⟨h.1, hk _ _ _ _ _ _ h.2⟩) h.2⟩
  · exact fun h => ⟨h.1, pm_ii_m (fun _ _ _ h => ⟨h.1, hk _ _ _ _ _ _ h.2⟩) h.2⟩
  · exact pm_ar1_m (fun _ _ => pm_inv_m hc hq hk)
  · exact id
theorem pm_vi_m {C : pC} {call : pCall} {cost : Nat → Nat × Nat × Bool × Bool} {ak : Bool × Bool} {nxe mc ms : Nat} {Q Q' : pQ} {k k' : pF} (hc : ∀ j as S (Q Q' : pQ), (∀ o S, Q o S → Q' o S) → call j as S Q → call j as S Q') (hq : ∀ o S, Q o S → Q' o S) (hk : ∀ a b c d e f, k a b c d e f → k' a b c d e f) {pc : Nat} {ls : pL} {st : List Value} {uc us : Nat} {S : pS} {o : Option (Nat × Nat × Nat × Nat)} : pm_o o (fun q => match q.1 with
      | 1 => pm_ar1 st q.2.2.1 (fun as r => pm_r r (fun b r => pm_ob S b q.2.2.2 (fun _ => True) ∧ pm_inv C call cost ak nxe mc ms Q k pc ls q.2.1 (.ref b :: as) r uc us S))
      | 6 => pm_ar1 st q.2.2.1 (fun as r => pm_t r (fun b r => b < 26 ∧ pm_inv C call cost ak nxe mc ms Q k pc ls q.2.1 (.retAddr b :: as) r uc us S))
      | _ => False) → pm_o o (fun q => match q.1 with
      | 1 => pm_ar1 st q.2.2.1 (fun as r => pm_r r (fun b r => pm_ob S b q.2.2.2 (fun _ => True) ∧ pm_inv C call cost ak nxe mc ms Q' k' pc ls q.2.1 (.ref b :: as) r uc us S))
      | 6 => pm_ar1 st q.2.2.1 (fun as r => pm_t r (fun b r => b < 26 ∧ pm_inv C call cost ak nxe mc ms Q' k' pc ls q.2.1 (.retAddr b :: as) r uc us S))
      | _ => False) := by
  refine pm_o_m (fun q => ?_)
  obtain ⟨kd, j, n, ci⟩ := q
  dsimp only
  split
  · exact pm_ar1_m (fun _ _ => pm_r_m (fun _ _ h => ⟨h.1, pm_inv_m hc hq hk h.2⟩))
  · exact pm_ar1_m (fun _ _ => pm_t_m (fun _ _ h => ⟨h.1, pm_inv_m hc hq hk h.2⟩))
  · exact id
theorem pm_sp_m {C : pC} {d : Nat} {call : pCall} {cost : Nat → Nat × Nat × Bool × Bool} {ak : Bool × Bool} {nxe mc ms : Nat} {k k' : pF} (hc : ∀ j as S (Q Q' : pQ), (∀ o S, Q o S → Q' o S) → call j as S Q → call j as S Q') (hk : ∀ a b c d e f, k a b c d e f → k' a b c d e f) {pc : Nat} {ls : pL} {st : List Value} {uc us : Nat} {S : pS} {o : Option (Nat × Nat × Nat × Nat)} : pm_o o (fun q => match q.1 with
      | 2 => pm_ar1 st q.2.2.1 (fun as r => pm_r r (fun b r => pm_inv C call cost ak nxe mc ms (fun _ _ => False) k pc ls q.2.1 (.ref b :: as) r uc us S))
      | 3 => 2 ≤ d ∧ pm_r st (fun b r => pm_ob S b q.2.2.2 (fun _ => True) ∧ r = [] ∧ k (pc + 3) ls r uc us S)
      | 5 => pm_ar1 st q.2.2.1 (fun as r => pm_r r (fun b r => pm_inv C call cost ak nxe mc ms (fun _ _ => False) k pc ls q.2.1 (.ref b :: as) r uc us S))
      | _ => False) → pm_o o (fun q => match q.1 with
      | 2 => pm_ar1 st q.2.2.1 (fun as r => pm_r r (fun b r => pm_inv C call cost ak nxe mc ms (fun _ _ => False) k' pc ls q.2.1 (.ref b :: as) r uc us S))
      | 3 => 2 ≤ d ∧ pm_r st (fun b r => pm_ob S b q.2.2.2 (fun _ => True) ∧ r = [] ∧ k' (pc + 3) ls r uc us S)
      | 5 => pm_ar1 st q.2.2.1 (fun as r => pm_r r (fun b r => pm_inv C call cost ak nxe mc ms (fun _ _ => False) k' pc ls q.2.1 (.ref b :: as) r uc us S))
      | _ => False) := by
  refine pm_o_m (fun q => ?_)
  obtain ⟨kd, j, n, ci⟩ := q
  dsimp only
  split
  · exact pm_ar1_m (fun _ _ => pm_r_m (fun _ _ => pm_inv_m (Q := fun _ _ => False) (Q' := fun _ _ => False) hc (fun _ _ h => h) hk))
  · exact fun h => ⟨h.1, pm_r_m (fun _ _ h => ⟨h.1, h.2.1, hk _ _ _ _ _ _ h.2.2⟩) h.2⟩
  · exact pm_ar1_m (fun _ _ => pm_r_m (fun _ _ => pm_inv_m (Q := fun _ _ => False) (Q' := fun _ _ => False) hc (fun _ _ h => h) hk))
  · exact id
theorem pm_step_m {C : pC} {d : Nat} {call : pCall} {cost : Nat → Nat × Nat × Bool × Bool} {ak : Bool × Bool} {nxe mc ms : Nat} {Q Q' : pQ} {k k' : pF} (hc : ∀ j as S (Q Q' : pQ), (∀ o S, Q o S → Q' o S) → call j as S Q → call j as S Q') (hq : ∀ o S, Q o S → Q' o S) (hk : ∀ a b c d e f, k a b c d e f → k' a b c d e f) (pc : Nat) (ls : pL) (st : List Value) (uc us : Nat) (S : pS) : pm_step C d call cost ak nxe mc ms Q k pc ls st uc us S → pm_step C d call cost ak nxe mc ms Q' k' pc ls st uc us S := by
  unfold pm_step
  cases pc_in C pc with
  | none => exact id
  | some q =>
    obtain ⟨ins, tg⟩ := q
    cases ins <;> first
      | exact id
      | exact hk _ _ _ _ _ _
      | exact pm_ki_m (fun _ => hk _ _ _ _ _ _)
      | exact pm_kl_m (fun _ => hk _ _ _ _ _ _)
      | exact pm_gi_m (fun _ => hk _ _ _ _ _ _)
      | exact pm_gl_m (fun _ => hk _ _ _ _ _ _)
      | exact pm_ga_m (fun _ => hk _ _ _ _ _ _)
      | exact pm_gi_m (fun _ h => ⟨h.1, hk _ _ _ _ _ _ h.2⟩)
      | exact pm_i_m (fun _ _ => hk _ _ _ _ _ _)
      | exact pm_l_m (fun _ _ => hk _ _ _ _ _ _)
      | exact pm_i_m (fun _ _ h => ⟨h.1, hk _ _ _ _ _ _ h.2⟩)
      | exact pm_l_m (fun _ _ h => ⟨h.1, hk _ _ _ _ _ _ h.2⟩)
      | exact pm_a_m (fun _ _ h => ⟨h.1, hk _ _ _ _ _ _ h.2⟩)
      | exact pm_ii_m (fun _ _ _ => hk _ _ _ _ _ _)
      | exact pm_ii_m (fun _ _ _ h => ⟨h.1, hk _ _ _ _ _ _ h.2⟩)
      | exact pm_ll_m (fun _ _ _ => hk _ _ _ _ _ _)
      | exact pm_li_m (fun _ _ _ => hk _ _ _ _ _ _)
      | exact pm_dup_m (fun _ _ => hk _ _ _ _ _ _)
      | exact pm_dup2_m (fun _ _ _ => hk _ _ _ _ _ _)
      | exact pm_i_m (fun _ _ => pm_cd_m (hk _ _ _ _ _ _) (hk _ _ _ _ _ _))
      | exact pm_ii_m (fun _ _ _ => pm_cd_m (hk _ _ _ _ _ _) (hk _ _ _ _ _ _))
      | exact pm_i_m (fun _ _ => pm_sw_m (fun _ => hk _ _ _ _ _ _))
      | exact pm_o_m (fun _ => pm_r_m (fun _ _ => pm_ob_m (fun _ => pm_o_m (fun _ => hk _ _ _ _ _ _))))
      | exact pm_o_m (fun _ => pm_vr_m (fun _ _ _ => pm_ob_m (fun _ h => ⟨h.1, pm_o_m (fun _ h => ⟨h.1, h.2.1, hk _ _ _ _ _ _ h.2.2⟩) h.2⟩)))
      | exact pm_ir_m (fun _ _ _ => pm_ar_m (fun _ _ => pm_ix_m (hk _ _ _ _ _ _)))
      | exact pm_ir_m (fun _ _ _ => pm_aj_m (fun _ _ => pm_ix_m (hk _ _ _ _ _ _)))
      | exact pm_iir_m (fun _ _ _ _ => pm_ar_m (fun _ _ => pm_ix_m (hk _ _ _ _ _ _)))
      | exact pm_lir_m (fun _ _ _ _ => pm_aj_m (fun _ _ => pm_ix_m (hk _ _ _ _ _ _)))
      | exact pm_ia_m (fun _ _ => hk _ _ _ _ _ _)
      | exact pm_al_m (fun _ _ => hk _ _ _ _ _ _)
      | exact pm_st_m hc hq hk
      | exact pm_vi_m hc hq hk
      | exact pm_sp_m hc hk
      | exact pm_o_m (fun _ => pm_i_m (fun _ _ h => ⟨h.1, h.2.1, h.2.2.1, h.2.2.2.1, h.2.2.2.2.1, hk _ _ _ _ _ _ h.2.2.2.2.2⟩))
      | exact pm_i_m (fun _ _ h => ⟨h.1, pm_o_m (fun _ h => ⟨h.1, h.2.1, hq _ _ h.2.2⟩) h.2⟩)
      | exact pm_l_m (fun _ _ h => ⟨h.1, h.2.1, h.2.2.1, hq _ _ h.2.2.2⟩)
      | exact fun h => ⟨h.1, h.2.1, h.2.2.1, hq _ _ h.2.2.2⟩
      | skip
    show (match pc_th C pc with
      | some E => 7 ≤ d ∧ st.length ≤ 4 ∧ uc + 1 ≤ mc ∧ us + 6 ≤ ms ∧ Q (.inr E) S
      | none => pm_o (pc_nw C _) (fun q => uc + 1 ≤ mc ∧ us + q.2.length ≤ ms ∧ (ak.1 = true ∧ S.1 = nxe + uc) ∧ k (pc + 3) ls (.ref S.1 :: st) (uc + 1) (us + q.2.length) (S.1 + 1, va_up S.2 S.1 (.inr q)))) → _
    cases pc_th C pc with
    | some E => exact fun h => ⟨h.1, h.2.1, h.2.2.1, h.2.2.2.1, hq _ _ h.2.2.2.2⟩
    | none => exact pm_o_m (fun _ h => ⟨h.1, h.2.1, h.2.2.1, hk _ _ _ _ _ _ h.2.2.2⟩)
theorem pm_go {C : pC} {d : Nat} {call : pCall} {cost : Nat → Nat × Nat × Bool × Bool} {ak : Bool × Bool} {nxe mc ms : Nat} {Q : pQ} (hc : ∀ j as S (Q Q' : pQ), (∀ o S, Q o S → Q' o S) → call j as S Q → call j as S Q') {pc : Nat} {ls : pL} {st : List Value} {uc us : Nat} {S : pS} (h : pm_step C d call cost ak nxe mc ms Q (pm_ev C d call cost ak nxe mc ms Q) pc ls st uc us S) : pm_ev C d call cost ak nxe mc ms Q pc ls st uc us S := by
  intro X hX
  exact hX _ _ _ _ _ _ (pm_step_m hc (fun _ _ => id) (fun _ _ _ _ _ _ q => q X hX) _ _ _ _ _ _ h)
theorem pm_ev_m {C : pC} {d : Nat} {call : pCall} {cost : Nat → Nat × Nat × Bool × Bool} {ak : Bool × Bool} {nxe mc ms : Nat} {Q Q' : pQ} (hc : ∀ j as S (Q Q' : pQ), (∀ o S, Q o S → Q' o S) → call j as S Q → call j as S Q') (hq : ∀ o S, Q o S → Q' o S) {pc : Nat} {ls : pL} {st : List Value} {uc us : Nat} {S : pS} (h : pm_ev C d call cost ak nxe mc ms Q pc ls st uc us S) : pm_ev C d call cost ak nxe mc ms Q' pc ls st uc us S := by
  refine h _ (fun pc ls st uc us S q => pm_go hc (pm_step_m hc hq (fun _ _ _ _ _ _ z => z) _ _ _ _ _ _ q))
theorem pm_call_m {M : Nat → Option (pC × Nat)} {cost : Nat → Nat × Nat × Bool × Bool} {ext : pCall} (he : ∀ j as S (Q Q' : pQ), (∀ o S, Q o S → Q' o S) → ext j as S Q → ext j as S Q') : ∀ (d : Nat) (j : Nat) (as : List Value) (S : pS) (Q Q' : pQ), (∀ o S, Q o S → Q' o S) → pm_call M cost ext d j as S Q → pm_call M cost ext d j as S Q'
  | 0, _, _, _, _, _, _ => id
  | d + 1, j, as, S, Q, Q', hq => by
    unfold pm_call
    cases M j with
    | some q => exact fun h => ⟨h.1, pm_ev_m (pm_call_m he d) hq h.2⟩
    | none => exact fun h => ⟨h.1, he _ _ _ _ _ hq h.2⟩
