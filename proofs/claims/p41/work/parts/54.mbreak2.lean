/-! ===== FacingleafModel.isBrokenSo, breaks ===== -/
def p_mkept (M : qM) (it : Int) : Prop := M 79 0 it = M 11 0 1 ∧ ∀ j, 0 ≤ j → j < M 67 0 it → M 80 0 (20 * it + j) = M 69 0 (20 * it + j) + M 76 0 (20 * it + j)
/-- what breaking an item anew leaves as it was, in the model -/
def frB (it n : Int) (M M' : qM) : Prop := ∀ (k : Nat) (m s : Int), ¬ (((k = 84 ∨ k = 85 ∨ k = 86) ∧ m = 0) ∨ ((k = 79 ∨ k = 81 ∨ k = 83) ∧ m = 0 ∧ s = it) ∨ ((k = 82 ∨ k = 80) ∧ m = 0 ∧ 20 * it ≤ s ∧ s < 20 * it + n) ∨ (k = 11 ∧ m = 0 ∧ s = 23)) → M' k m s = M k m s
