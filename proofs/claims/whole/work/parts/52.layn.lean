def layP (r c s lot : Nat) : Bool := decide (fsJ (jnL r c s (r * c)) lot = nbs r c s lot)
set_option maxRecDepth 100000 in
theorem lay_1 : ((List.range 8).all fun c => (List.range 3).all fun s => (List.range (1 * (c + 1))).all fun lot => layP 1 (c + 1) s lot) = true := by decide +kernel
set_option maxRecDepth 100000 in
theorem lay_2 : ((List.range 8).all fun c => (List.range 3).all fun s => (List.range (2 * (c + 1))).all fun lot => layP 2 (c + 1) s lot) = true := by decide +kernel
set_option maxRecDepth 100000 in
theorem lay_3 : ((List.range 8).all fun c => (List.range 3).all fun s => (List.range (3 * (c + 1))).all fun lot => layP 3 (c + 1) s lot) = true := by decide +kernel
set_option maxRecDepth 100000 in
theorem lay_4 : ((List.range 8).all fun c => (List.range 3).all fun s => (List.range (4 * (c + 1))).all fun lot => layP 4 (c + 1) s lot) = true := by decide +kernel
set_option maxRecDepth 100000 in
theorem lay_5 : ((List.range 8).all fun c => (List.range 3).all fun s => (List.range (5 * (c + 1))).all fun lot => layP 5 (c + 1) s lot) = true := by decide +kernel
set_option maxRecDepth 100000 in
theorem lay_6 : ((List.range 8).all fun c => (List.range 3).all fun s => (List.range (6 * (c + 1))).all fun lot => layP 6 (c + 1) s lot) = true := by decide +kernel
set_option maxRecDepth 100000 in
theorem lay_7 : ((List.range 8).all fun c => (List.range 3).all fun s => (List.range (7 * (c + 1))).all fun lot => layP 7 (c + 1) s lot) = true := by decide +kernel
set_option maxRecDepth 100000 in
theorem lay_8 : ((List.range 8).all fun c => (List.range 3).all fun s => (List.range (8 * (c + 1))).all fun lot => layP 8 (c + 1) s lot) = true := by decide +kernel
theorem lay_n : ((List.range 8).all fun r => (List.range 8).all fun c => (List.range 3).all fun s => (List.range ((r + 1) * (c + 1))).all fun lot => layP (r + 1) (c + 1) s lot) = true := by
  rw [List.all_eq_true]
  intro r hr
  have hr := List.mem_range.mp hr
  match r, hr with
  | 0, _ => exact lay_1
  | 1, _ => exact lay_2
  | 2, _ => exact lay_3
  | 3, _ => exact lay_4
  | 4, _ => exact lay_5
  | 5, _ => exact lay_6
  | 6, _ => exact lay_7
  | 7, _ => exact lay_8
  | r + 8, h => exact absurd h (by omega)
