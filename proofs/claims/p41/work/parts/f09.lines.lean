/-! ===== lines of the index, sheets, lines of an item ===== -/
theorem y_L {n en L : Int} {B : pT} {W : Int → Int} {R : c_R} {M N : qM} (h : c_rl n B M) (hx : c_mdx B en W R L M) (f : c_fr M N) : x_L (M 27 0) (N 75 0) = L := by
  rw [hx.2.2.2.2.1.2.2.2.2.2.2.2]
  unfold x_L
  refine p_sum_cg (by decide) (fun t a b => ?_)
  show (M 27 0 t + 2) / 3 + (if N 75 0 t < 0 then 0 else 1) = _
  rw [f 75 0 t (by unfold c_scr; omega), ← (h.2.2.1.2.1 t a b).1]
theorem ix_b {D L x : Int} (hD : 8 ≤ D ∧ D ≤ 14) (hx : 0 ≤ x ∧ x < L) (hL : L ≤ 1000) : qIn (2 * D) ∧ 0 < 2 * D ∧ qIn (x / (2 * D) * 2) ∧ qIn (x / (2 * D) * 2 * D) ∧ qIn (L - x / (2 * D) * 2 * D) ∧ (0 ≤ x / (2 * D) ∧ x / (2 * D) ≤ 1000) ∧ 0 ≤ L - x / (2 * D) * 2 * D ∧ L - x / (2 * D) * 2 * D ≤ 1000 := by
  have dd : D = 8 ∨ D = 9 ∨ D = 10 ∨ D = 11 ∨ D = 12 ∨ D = 13 ∨ D = 14 := by omega
  unfold qIn
  rcases dd with rfl | rfl | rfl | rfl | rfl | rfl | rfl <;> omega
theorem x_col_b {D L x : Int} : 0 ≤ x_col D L x ∧ x_col D L x ≤ 1 := by
  unfold x_col
  split <;> omega
