/-! FIGURE, NOTE, IMAGE, RESTORE -/
def NoteR (P : Pl) (nn : Nat) (dfig dcell dhrs mnoted : Nat → Int32) : Prop := nn ≤ 8 ∧ ∀ i, i < nn → (dfig i = mnoted (3 * i) ∧ dcell i = mnoted (3 * i + 1) ∧ dhrs i = mnoted (3 * i + 2)) ∧ (∃ f, f < qF P ∧ dfig i = nI f) ∧ (∃ c, c < qW P * qH P ∧ dcell i = nI c) ∧ ∃ h, h ≤ 20 ∧ dhrs i = nI h
theorem NoteR.cg {P : Pl} {nn : Nat} {dfig dcell dhrs mnoted dfig' dcell' dhrs' mnoted' : Nat → Int32} (h : NoteR P nn dfig dcell dhrs mnoted) (h1 : ∀ i, i < 8 → dfig' i = dfig i) (h2 : ∀ i, i < 8 → dcell' i = dcell i) (h3 : ∀ i, i < 8 → dhrs' i = dhrs i) (h4 : ∀ i, i < 24 → mnoted' i = mnoted i) : NoteR P nn dfig' dcell' dhrs' mnoted' := by
  obtain ⟨hn, h⟩ := h
  refine ⟨hn, fun i hi => ?_⟩
  rw [h1 i (by omega), h2 i (by omega), h3 i (by omega), h4 _ (by omega), h4 _ (by omega), h4 _ (by omega)]
  exact h i hi
theorem DiaR.cg {P : Pl} (hP : plOk P) {nx na : Nat} {drows mkept drows' mkept' : Nat → Int32} (h : DiaR P nx na drows mkept) (h1 : ∀ k, k < 1120 → drows' k = drows k) (h2 : ∀ k, k < 2800 → mkept' k = mkept k) : DiaR P nx na drows' mkept' := by
  obtain ⟨hx, ha, h⟩ := h
  exact ⟨hx, ha, fun i hi => svR_cg hP (h i hi) (fun k hk => h1 _ (by omega)) (fun k hk => h2 _ (by omega))⟩
/-- what an image keeps -/
def MemR (P : Pl) (hr pn wl nx na nn : Nat) (ncell nsore nheld nlead rows drows mkept dfig dcell dhrs mnoted : Nat → Int32) : Prop := NowR P hr pn wl ncell nsore nheld nlead rows ∧ DiaR P nx na drows mkept ∧ NoteR P nn dfig dcell dhrs mnoted
theorem m_copies {n : Nat} {a b : Nat → Int32} (hn : n < 2 ^ 31) : zwp (f_X12_copies n n a b) (fun r => ∀ k, k < n → r k = a k) := by
  unfold f_X12_copies
  refine zl_bind (P := fun i x => ∃ g, x = (nI i, g) ∧ ∀ k, k < i → g k = a k) (Post := fun g => ∀ k, k < n → g k = a k) n (by omega) ⟨b, rfl, fun k hk => by omega⟩ ?_ ?_ (fun g h => zwi h)
  · rintro i hi _ ⟨g, rfl, h⟩
    refine zi_f (nI_ge hi hn) ?_
    rw [zbnd_nI hi hn, zbnd_nI hi hn, nI_clamp (by omega), nI_1]
    refine zwi ⟨_, rfl, fun k hk => ?_⟩
    by_cases he : k = i
    · subst he; rw [pk_us]
    · rw [pk_un he]; exact h k (by omega)
  · rintro _ ⟨g, rfl, h⟩
    exact zi_t (nI_le (Nat.le_refl _) hn) (zwi h)
theorem cpyN {f g : Nat → Int32} {n k : Nat} (h : k < n) : va_cpy f g 0 0 n k = f k := by
  rw [pk_cpy_in (by omega) (by omega)]
  congr 1
  omega
/-- the image, in the class and in the reference -/
def ImgR (P : Pl) (fl mfl iacts inext inotes ihr ipn ifig miacts minotes : Int32) (iwl : Int64) (icell isore iheld ilead irow idrows imkept idfig idcell idhrs imnoted : Nat → Int32) : Prop := fl = mfl ∧ (fl = 0 ∨ (fl = 1 ∧ ∃ hr pn wl nx na nn, iacts = nI na ∧ inext = nI nx ∧ inotes = nI nn ∧ ihr = nI hr ∧ ipn = nI pn ∧ iwl = lN wl ∧ ifig = nI (qF P) ∧ miacts = nI na ∧ minotes = nI nn ∧ MemR P hr pn wl nx na nn icell isore iheld ilead irow idrows imkept idfig idcell idhrs imnoted))
theorem cm_image {P : Pl} (hP : plOk P) {hr pn wl nx na nn : Nat} {ncell nsore nheld nlead rows drows mkept dfig dcell dhrs mnoted : Nat → Int32} {fl mfl iacts inext inotes ihr ipn ifig miacts minotes mthr : Int32} {iwl : Int64} {icell isore iheld ilead irow idrows imkept idfig idcell idhrs imnoted : Nat → Int32} (hM : MemR P hr pn wl nx na nn ncell nsore nheld nlead rows drows mkept dfig dcell dhrs mnoted) : zwp (f_X11_image (nI na) dcell dfig dhrs (nI nx) (nI nn) drows iacts idcell idfig idhrs inext inotes idrows icell ifig iheld ihr ilead ipn isore iwl fl ncell (nI (qF P)) nheld (nI hr) nlead (nI pn) nsore (lN wl)) (fun r => zwp (f_X12_image (nI na) mfl miacts imkept minotes imnoted irow mkept mnoted (nI nn) rows mthr) (fun s => s.2.2.2.2.2.2 = 0 ∧ ImgR P r.2.2.2.2.2.2.2.2.2.2.2.2.2.2.2 s.1 r.1 r.2.2.2.2.1 r.2.2.2.2.2.1 r.2.2.2.2.2.2.2.2.2.2.1 r.2.2.2.2.2.2.2.2.2.2.2.2.1 r.2.2.2.2.2.2.2.2.1 s.2.1 s.2.2.2.1 r.2.2.2.2.2.2.2.2.2.2.2.2.2.2.1 r.2.2.2.2.2.2.2.1 r.2.2.2.2.2.2.2.2.2.2.2.2.2.1 r.2.2.2.2.2.2.2.2.2.1 r.2.2.2.2.2.2.2.2.2.2.2.1 s.2.2.2.2.2.1 r.2.2.2.2.2.2.1 s.2.2.1 r.2.2.1 r.2.1 r.2.2.2.1 s.2.2.2.2.1)) := by
  have hF := hP.2.2.2.2.1
  have hWH := hP.wh
  obtain ⟨hN, hD, hNo⟩ := hM
  unfold f_X11_image f_X12_image f_X8_copyFrom f_X0_copyFrom
  refine zi_beq rfl (zi_beq rfl (zwi ?_))
  refine zl_bind (P := fun i x => ∃ g, x = (nI i, g) ∧ ∀ k, k < i → g k = rows k) (Post := fun g => ∀ k, k < 70 → g k = rows k) 70 (by decide) ⟨irow, rfl, fun k hk => by omega⟩ ?_ ?_ ?_
  · rintro i hi _ ⟨g, rfl, h⟩
    rw [show (70 : Int32) = nI 70 from rfl]
    refine zi_f (nI_ge hi (by decide)) ?_
    rw [zbnd_nI (by omega) (by decide), zbnd_nI (by omega) (by decide), nI_clamp (by omega), nI_1]
    refine zwi ⟨_, rfl, fun k hk => ?_⟩
    by_cases he : k = i
    · subst he; rw [pk_us]
    · rw [pk_un he]; exact h k (by omega)
  · rintro _ ⟨g, rfl, h⟩
    exact zi_t (nI_le (Nat.le_refl _) (by decide)) (zwi h)
  · intro g hg
    refine zi_bind (zwp_mono (m_copies (n := 2800) (by decide)) ?_)
    intro k2 hk2
    refine zi_bind (zwp_mono (m_copies (n := 24) (by decide)) ?_)
    intro k3 hk3
    refine zwi ⟨rfl, rfl, Or.inr ⟨rfl, hr, pn, wl, nx, na, nn, rfl, rfl, rfl, rfl, rfl, rfl, rfl, rfl, rfl, ?_, ?_, ?_⟩⟩
    · exact hN.cg hP (fun f hf => cpyN hf) (fun f hf => cpyN hf) (fun f hf => cpyN hf) (fun f hf => (cpyN (by omega)).trans (hN.2.2.2.2.2.2.2.2 f hf)) hg
    · exact hD.cg hP (fun k hk => cpyN hk) hk2
    · exact hNo.cg (fun k hk => cpyN hk) (fun k hk => cpyN hk) (fun k hk => cpyN hk) hk3
theorem cm_restore {P : Pl} (hP : plOk P) {hr pn wl nx na nn : Nat} {ncell nsore nheld nlead rows drows mkept dfig dcell dhrs mnoted : Nat → Int32} {fl mfl iacts inext inotes ihr ipn ifig miacts minotes mthr : Int32} {iwl : Int64} {icell isore iheld ilead irow idrows imkept idfig idcell idhrs imnoted : Nat → Int32} (hM : MemR P hr pn wl nx na nn ncell nsore nheld nlead rows drows mkept dfig dcell dhrs mnoted) (hI : ImgR P fl mfl iacts inext inotes ihr ipn ifig miacts minotes iwl icell isore iheld ilead irow idrows imkept idfig idcell idhrs imnoted) : zwp (f_X11_restore (nI na) dcell dfig dhrs (nI nx) (nI nn) drows iacts idcell idfig idhrs inext inotes idrows icell ifig iheld ihr ilead ipn isore iwl fl ncell (nI (qF P)) nheld (nI hr) nlead (nI pn) nsore (lN wl)) (fun r => zwp (f_X12_restore (nI na) mfl miacts imkept minotes imnoted irow mkept mnoted (nI nn) rows mthr) (fun s => s.1 = r.1 ∧ s.2.2.2.2.2.2 = 0 ∧ r.2.2.2.2.2.2.2.2.2.1 = nI (qF P) ∧ ∃ hr2 pn2 wl2 nx2 na2 nn2, r.2.1 = nI na2 ∧ r.2.2.2.2.2.1 = nI nx2 ∧ r.2.2.2.2.2.2.1 = nI nn2 ∧ r.2.2.2.2.2.2.2.2.2.2.2.1 = nI hr2 ∧ r.2.2.2.2.2.2.2.2.2.2.2.2.2.1 = nI pn2 ∧ r.2.2.2.2.2.2.2.2.2.2.2.2.2.2.2 = lN wl2 ∧ s.2.1 = nI na2 ∧ s.2.2.2.2.1 = nI nn2 ∧ MemR P hr2 pn2 wl2 nx2 na2 nn2 r.2.2.2.2.2.2.2.2.1 r.2.2.2.2.2.2.2.2.2.2.2.2.2.2.1 r.2.2.2.2.2.2.2.2.2.2.1 r.2.2.2.2.2.2.2.2.2.2.2.2.1 s.2.2.2.2.2.1 r.2.2.2.2.2.2.2.1 s.2.2.1 r.2.2.2.1 r.2.2.1 r.2.2.2.2.1 s.2.2.2.1)) := by
  have hF := hP.2.2.2.2.1
  have hWH := hP.wh
  unfold f_X11_restore f_X12_restore f_X8_copyFrom f_X0_copyFrom
  obtain ⟨rfl, h0 | ⟨h1, hr2, pn2, wl2, nx2, na2, nn2, rfl, rfl, rfl, rfl, rfl, rfl, rfl, rfl, rfl, hN, hD, hNo⟩⟩ := hI
  · subst h0
    exact zi_t rfl (zwi (zi_t rfl (zwi ⟨rfl, rfl, rfl, hr, pn, wl, nx, na, nn, rfl, rfl, rfl, rfl, rfl, rfl, rfl, rfl, hM⟩)))
  · subst h1
    refine zi_f (by decide) (zi_beq rfl (zi_beq rfl (zwi (zi_f (by decide) ?_))))
    refine zl_bind (P := fun i x => ∃ g, x = (nI i, g) ∧ ∀ k, k < i → g k = irow k) (Post := fun g => ∀ k, k < 70 → g k = irow k) 70 (by decide) ⟨rows, rfl, fun k hk => by omega⟩ ?_ ?_ ?_
    · rintro i hi _ ⟨g, rfl, h⟩
      rw [show (70 : Int32) = nI 70 from rfl]
      refine zi_f (nI_ge hi (by decide)) ?_
      rw [zbnd_nI (by omega) (by decide), zbnd_nI (by omega) (by decide), nI_clamp (by omega), nI_1]
      refine zwi ⟨_, rfl, fun k hk => ?_⟩
      by_cases he : k = i
      · subst he; rw [pk_us]
      · rw [pk_un he]; exact h k (by omega)
    · rintro _ ⟨g, rfl, h⟩
      exact zi_t (nI_le (Nat.le_refl _) (by decide)) (zwi h)
    · intro g hg
      refine zi_bind (zwp_mono (m_copies (n := 2800) (by decide)) ?_)
      intro k2 hk2
      refine zi_bind (zwp_mono (m_copies (n := 24) (by decide)) ?_)
      intro k3 hk3
      refine zwi ⟨rfl, rfl, rfl, hr2, pn2, wl2, nx2, na2, nn2, rfl, rfl, rfl, rfl, rfl, rfl, rfl, rfl, ?_, ?_, ?_⟩
      · exact hN.cg hP (fun f hf => cpyN hf) (fun f hf => cpyN hf) (fun f hf => cpyN hf) (fun f hf => (cpyN (by omega)).trans (hN.2.2.2.2.2.2.2.2 f hf)) hg
      · exact hD.cg hP (fun k hk => cpyN hk) hk2
      · exact hNo.cg (fun k hk => cpyN hk) (fun k hk => cpyN hk) (fun k hk => cpyN hk) hk3
theorem cm_note {P : Pl} (hP : plOk P) {nn : Nat} {dfig dcell dhrs mnoted refd mrefd : Nat → Int32} {mthr : Int32} (hNo : NoteR P nn dfig dcell dhrs mnoted) (hRf : ∀ k, k < 3 → refd k = mrefd k) {a1 a2 a3 : Int32} : zwp (f_X11_note a1 a2 a3 dcell dfig dhrs (nI nn) (nI (qF P)) (nI (qH P)) (nI (qW P)) refd) (fun r => r.1 = toN (cond (okN (qF P) a1) (cond (okN (qW P * qH P) a2) (some (if nn < 8 ∧ inR 0 20 a3 = true then nI (nn + 1) else -1)) none) none) ∧ zwp (f_X12_note a1 a2 a3 (nI (qF P)) mnoted (nI nn) mrefd (nI (qH P)) mthr (nI (qW P))) (fun s => s.1 = toW (cond (okN (qF P) a1) (cond (okN (qW P * qH P) a2) (some (if nn < 8 ∧ inR 0 20 a3 = true then nI (nn + 1) else -1)) none) none) ∧ s.2.2.2.2 = toU (cond (okN (qF P) a1) (cond (okN (qW P * qH P) a2) (some (if nn < 8 ∧ inR 0 20 a3 = true then nI (nn + 1) else -1)) none) none) ∧ ∃ nn2, r.2.2.2.2.1 = nI nn2 ∧ s.2.2.1 = nI nn2 ∧ NoteR P nn2 r.2.2.1 r.2.1 r.2.2.2.1 s.2.1 ∧ ∀ k, k < 3 → r.2.2.2.2.2 k = s.2.2.2.1 k)) := by
  have hF := hP.2.2.2.2.1
  have hWH := hP.wh
  have hn8 := hNo.1
  unfold f_X11_note f_X12_note
  refine zi_beq (c_checkFigure (F := qF P) (by omega)) ?_
  cases hc0 : okN (qF P) a1 with
  | false =>
    refine zwi ⟨rfl, ?_⟩
    refine zi_beq (m_isFigure (F := qF P) (by omega)) ?_
    rw [hc0]
    exact zi_t rfl (zwi ⟨rfl, rfl, ⟨nn, rfl, rfl, hNo, hRf⟩⟩)
  | true =>
    refine zi_beq (c_checkCell (W := qW P) (H := qH P) (by omega)) ?_
    cases hc1 : okN (qW P * qH P) a2 with
    | false =>
      refine zwi ⟨rfl, ?_⟩
      refine zi_beq (m_isFigure (F := qF P) (by omega)) ?_
      rw [hc0]
      refine zi_f (by decide) ?_
      refine zi_beq (m_isCell (W := qW P) (H := qH P) (by omega)) ?_
      rw [hc1]
      exact zi_t rfl (zwi ⟨rfl, rfl, ⟨nn, rfl, rfl, hNo, hRf⟩⟩)
    | true =>
      obtain ⟨f, hf, rfl⟩ := okN_t hc0
      obtain ⟨c, hc, rfl⟩ := okN_t hc1
      by_cases h8 : nn = 8
      · refine zi_t (by rw [h8, show (8 : Int32) = nI 8 from rfl]; exact nI_le (Nat.le_refl _) (by decide)) (zwi ⟨by rw [if_neg (by omega)]; rfl, ?_⟩)
        refine zi_beq (m_isFigure (F := qF P) (by omega)) ?_
        rw [hc0]
        refine zi_f (by decide) ?_
        refine zi_beq (m_isCell (W := qW P) (H := qH P) (by omega)) ?_
        rw [hc1]
        refine zi_f (by decide) (zi_t (by rw [h8]; rfl) (zi_beq m_refuses2 (zwi ⟨by rw [if_neg (by omega)]; rfl, rfl, ⟨nn, rfl, rfl, hNo, ref_upd hRf (by decide)⟩⟩)))
      · have hne : ¬ nI nn = 8 := fun e => h8 (by rw [show (8 : Int32) = nI 8 from rfl, nI_eq (by omega) (by decide)] at e; exact e)
        refine zi_f (by rw [show (8 : Int32) = nI 8 from rfl]; exact nI_ge (by omega) (by decide)) ?_
        cases hi : inR 0 20 a3 with
        | false =>
          have h2 : ¬ ((0 : Int) ≤ a3.toInt ∧ a3.toInt ≤ 20) := of_decide_eq_false hi
          have hcl : zwp (some ((Sum.inl (-1) : Int32 ⊕ String), dcell, dfig, dhrs, nI nn, upd refd 2 (refd 2 + 1))) (fun r => r = (Sum.inl (-1), dcell, dfig, dhrs, nI nn, upd refd 2 (refd 2 + 1))) := zwi rfl
          refine zwp_mono (Q := fun r => r = (Sum.inl (-1), dcell, dfig, dhrs, nI nn, upd refd 2 (refd 2 + 1))) ?_ ?_
          · refine zi_c (fun q => hcl) (fun q => zi_f (fun q2 => h2 ?_) hcl)
            rw [ck_lt0] at q
            rw [show (20 : Int32) = nI 20 from rfl, ck_len (by decide)] at q2
            omega
          · rintro _ rfl
            refine ⟨by rw [if_neg (by simp)]; rfl, ?_⟩
            refine zi_beq (m_isFigure (F := qF P) (by omega)) ?_
            rw [hc0]
            refine zi_f (by decide) ?_
            refine zi_beq (m_isCell (W := qW P) (H := qH P) (by omega)) ?_
            rw [hc1]
            refine zi_f (by decide) (zi_f hne ?_)
            refine zi_beq (m_within (lo := 0) (hi := 20) (by decide) (by decide)) ?_
            rw [hi]
            exact zi_t rfl (zi_beq m_refuses2 (zwi ⟨by rw [if_neg (by simp)]; rfl, rfl, ⟨nn, rfl, rfl, hNo, ref_upd hRf (by decide)⟩⟩))
        | true =>
          obtain ⟨n, -, hn2, rfl⟩ := inR_t hi
          refine zi_f (nI_pos (by omega)) (zi_t (by rw [show (20 : Int32) = nI 20 from rfl]; exact nI_le hn2 (by decide)) ?_)
          unfold f_X0_add
          refine zi_bind (zi_f (by rw [show (8 : Int32) = nI 8 from rfl]; exact nI_ge (by omega) (by decide)) ?_)
          rw [zbnd_nI (by omega) (by decide), zbnd_nI (by omega) (by decide), zbnd_nI (by omega) (by decide), nI_clamp (show nn < 2 ^ 31 by omega)]
          refine zwi (zwi ⟨by rw [if_pos ⟨by omega, rfl⟩, nI_1]; rfl, ?_⟩)
          refine zi_beq (m_isFigure (F := qF P) (by omega)) ?_
          rw [hc0]
          refine zi_f (by decide) ?_
          refine zi_beq (m_isCell (W := qW P) (H := qH P) (by omega)) ?_
          rw [hc1]
          refine zi_f (by decide) (zi_f hne ?_)
          refine zi_beq (m_within (lo := 0) (hi := 20) (by decide) (by decide)) ?_
          rw [hi]
          refine zi_f (by decide) ?_
          rw [show (3 : Int32) = nI 3 from rfl, pk_mul, nI_1, show (2 : Int32) = nI 2 from rfl, nI_add, zbnd_nI (by omega) (by decide), zbnd_nI (by omega) (by decide), zbnd_nI (by omega) (by decide), nI_clamp (show 3 * nn < 2 ^ 31 by omega), nI_clamp (show 3 * nn + 1 < 2 ^ 31 by omega), nI_clamp (show 3 * nn + 2 < 2 ^ 31 by omega)]
          refine zwi ⟨by rw [if_pos ⟨by omega, rfl⟩, nI_1]; rfl, rfl, nn + 1, by rw [nI_1], by rw [nI_1], ⟨by omega, fun i hin => ?_⟩, hRf⟩
          by_cases he : i = nn
          · subst he
            refine ⟨⟨?_, ?_, ?_⟩, ⟨f, hf, pk_us⟩, ⟨c, hc, pk_us⟩, n, hn2, pk_us⟩
            · dsimp only; rw [pk_us, pk_un (by omega), pk_un (by omega), pk_us]
            · dsimp only; rw [pk_us, pk_un (by omega), pk_us]
            · dsimp only; rw [pk_us, pk_us]
          · have := hNo.2 i (by omega)
            dsimp only
            rw [pk_un he, pk_un he, pk_un he, pk_un (by omega), pk_un (by omega), pk_un (by omega), pk_un (by omega), pk_un (by omega), pk_un (by omega), pk_un (by omega), pk_un (by omega), pk_un (by omega)]
            exact this
