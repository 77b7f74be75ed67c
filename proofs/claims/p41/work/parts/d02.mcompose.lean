/-! ===== FacingleafModel.compose ===== -/
/-- what the model holds of what is composed -/
def m_now (B : pT) (W : Int → Int) (R : c_R) (L : Int) (M : qM) : Prop := m_ed0 B R M ∧ M 11 0 58 = c_tot B R L ∧ m_kd B (r_W R) (c_p0 B) 3 M ∧ (∀ p, c_lal B R < p → p ≤ c_tot B R L → M 105 0 p = 5) ∧ M 11 0 71 = c_lal B R + 1 ∧ ∀ y, 0 ≤ y → y < 600 → M 76 0 y = W y
def fr216 (M M' : qM) : Prop := ∀ (k : Nat) (m s : Int), ¬ (m = 0 ∧ ((k = 11 ∧ ((51 ≤ s ∧ s ≤ 58) ∨ s = 0 ∨ (20 ≤ s ∧ s ≤ 23) ∨ s = 71)) ∨ (76 ≤ k ∧ k ≤ 117))) → M' k m s = M k m s
theorem c_pc_b {D L : Int} (hD : 8 ≤ D ∧ D ≤ 14) (hL : 0 ≤ L ∧ L ≤ 1000) : 0 ≤ (L + 2 * D - 1) / (2 * D) ∧ (L + 2 * D - 1) / (2 * D) ≤ 64 := by
  rcases (show D = 8 ∨ D = 9 ∨ D = 10 ∨ D = 11 ∨ D = 12 ∨ D = 13 ∨ D = 14 by omega) with rfl | rfl | rfl | rfl | rfl | rfl | rfl <;> omega
