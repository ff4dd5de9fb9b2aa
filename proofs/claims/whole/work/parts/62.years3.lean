/-! YEARS -/
/-- seed, town and crowded hours after so many hours of fates -/
noncomputable def sYr (P : Pl) (wl hr : Nat) (s : Int32) (t : Tn) : Nat → Int32 × Tn × Nat
  | 0 => (s, t, 0)
  | k + 1 => ((sFate P wl (sYr P wl hr s t k).1 (sYr P wl hr s t k).2.1).1, sHr P wl (fun _ => 0) (hr + k) (sDull P (hr + k)) (sFate P wl (sYr P wl hr s t k).1 (sYr P wl hr s t k).2.1).2, (sYr P wl hr s t k).2.2 + (if plN (sHr P wl (fun _ => 0) (hr + k) (sDull P (hr + k)) (sFate P wl (sYr P wl hr s t k).1 (sYr P wl hr s t k).2.1).2).1 (qF P) < qF P then 1 else 0))
theorem sYr_ok {P : Pl} (hP : plOk P) {wl hr : Nat} {s : Int32} {t : Tn} (h : tOk P t) : ∀ k, tOk P (sYr P wl hr s t k).2.1
  | 0 => h
  | k + 1 => sHr_ok hP (sFate_ok hP (sYr_ok hP h k))
theorem sYr_le {P : Pl} {wl hr : Nat} {s : Int32} {t : Tn} : ∀ k, (sYr P wl hr s t k).2.2 ≤ k
  | 0 => Nat.le_refl _
  | k + 1 => by
    have := sYr_le (P := P) (wl := wl) (hr := hr) (s := s) (t := t) k
    show (sYr P wl hr s t k).2.2 + (if _ then 1 else 0) ≤ k + 1
    split <;> omega
