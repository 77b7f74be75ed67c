/-! ===== pairs of answers on rows, pages, heads and texts ===== -/
def c_rwq (M : qM) (c r : Int) : Prop := (0 ≤ c ∧ c < 3) ∧ 0 ≤ r ∧ (M 11 0 22 ≠ 0 → r < M 87 0 c)
theorem c_rwq_fr {M M1 : qM} {c r : Int} (f : c_fr M M1) : c_rwq M1 c r ↔ c_rwq M c r := by
  unfold c_rwq
  rw [f 11 0 22 (by unfold c_scr; omega), f 87 0 c (by unfold c_scr; omega)]
theorem y_70 {B : pT} {en L : Int} {W : Int → Int} {R : c_R} {M : qM} (hB : c_ok B) (h : c_mdx B en W R L M) {c : Int} (hc : 0 ≤ c ∧ c < 3) : p_okB (r_A B R c) (B 0 c) ∧ p_SR (r_A B R c) (B 0 c) ≤ 67 := by
  obtain ⟨ob, B1, R1, out⟩ := h.2.2.1
  have := c_okB hB out.1 hc
  exact ⟨this, this.2.2⟩
