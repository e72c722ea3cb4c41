/-! ===== the pairs of the reference and the sides of the class ===== -/
def oth (l : List (Nat × Nat)) (lot : Nat) : List Nat := l.filterMap (fun p => if p.1 = lot then some p.2 else if p.2 = lot then some p.1 else none)
set_option maxRecDepth 100000 in
theorem oth_n : ((List.range 8).all fun r => (List.range 8).all fun c => (List.range 3).all fun s => (List.range ((r + 1) * (c + 1))).all fun lot => (oth (prs (r + 1) (c + 1) s) lot).isPerm (nbs (r + 1) (c + 1) s lot)) = true := by decide +kernel
theorem Tn.Ok.oth {t : Tn} (h : t.Ok) {lot : Nat} (hl : lot < t.lots) : (_root_.Jvm.Pilot.@@N@@.oth t.prs lot).Perm (t.nb lot) :=
  List.isPerm_iff.mp (lay_all (P := fun r c s lot => (_root_.Jvm.Pilot.@@N@@.oth (_root_.Jvm.Pilot.@@N@@.prs r c s) lot).isPerm (_root_.Jvm.Pilot.@@N@@.nbs r c s lot)) oth_n h hl)
set_option maxRecDepth 100000 in
theorem ord_n : ((List.range 8).all fun r => (List.range 8).all fun c => (List.range 3).all fun s => decide (prs (r + 1) (c + 1) s = (List.range ((r + 1) * (c + 1))).flatMap (fun lot => ((nbs (r + 1) (c + 1) s lot).filter (fun o => decide (lot < o))).map (fun o => (lot, o))))) = true := by decide +kernel
theorem Tn.Ok.ord {t : Tn} (h : t.Ok) : t.prs = (List.range t.lots).flatMap (fun lot => ((t.nb lot).filter (fun o => decide (lot < o))).map (fun o => (lot, o))) := by
  obtain ⟨⟨h1, h2, h3, h4, h5, -⟩, -⟩ := h
  have q := List.all_eq_true.mp (List.all_eq_true.mp (List.all_eq_true.mp ord_n (t.rows - 1) (List.mem_range.mpr (by omega))) (t.cols - 1) (List.mem_range.mpr (by omega))) t.shape (List.mem_range.mpr (by omega))
  rw [show t.rows - 1 + 1 = t.rows by omega, show t.cols - 1 + 1 = t.cols by omega] at q
  exact of_decide_eq_true q
