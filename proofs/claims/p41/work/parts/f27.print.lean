/-! ===== print ===== -/
def y_z8 (k : Nat) (s : Int) : Bool := c_scb k s || ((Nat.beq k 10 && decide (s = 9)) || (Nat.beq k 11 && decide (73 ≤ s ∧ s ≤ 76)) || (Nat.ble 118 k && Nat.ble k 135))
def y_X8 (M : qM) : qM := fun k m s => bif y_z8 k s then 0 else M k m s
theorem y_X8_eq {M N : qM} (h : ∀ (k : Nat) (m s : Int), ¬ c_scr k s → ¬ (k = 10 ∧ s = 9) → ¬ (k = 11 ∧ 73 ≤ s ∧ s ≤ 76) → ¬ (118 ≤ k ∧ k ≤ 135) → N k m s = M k m s) : y_X8 N = y_X8 M := by
  funext k m s
  unfold y_X8
  by_cases q : c_scr k s
  · have e : y_z8 k s = true := by unfold y_z8; rw [c_scb_of q]; rfl
    rw [e]; rfl
  · by_cases q1 : k = 10 ∧ s = 9
    · obtain ⟨e1, e2⟩ := q1; subst e1; subst e2; rfl
    · by_cases q2 : k = 11 ∧ 73 ≤ s ∧ s ≤ 76
      · obtain ⟨e1, e2⟩ := q2
        subst e1
        have e : y_z8 11 s = true := by unfold y_z8; rw [decide_eq_true e2]; cases c_scb 11 s <;> rfl
        rw [e]; rfl
      · by_cases q3 : 118 ≤ k ∧ k ≤ 135
        · have e : y_z8 k s = true := by unfold y_z8; rw [Nat.ble_eq_true_of_le q3.1, Nat.ble_eq_true_of_le q3.2]; simp
          rw [e]; rfl
        · rw [h k m s q q1 q2 q3]
theorem y_cg8 {P : qM → Prop} (hP : ∀ M, P (y_X8 M) = P M) {M N : qM} (h : y_X8 N = y_X8 M) (p : P M) : P N := by
  rw [← hP N, h, hP M]; exact p
