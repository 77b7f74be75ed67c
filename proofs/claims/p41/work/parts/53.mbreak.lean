/-! ===== FacingleafModel.wide, costOfLine, breaks ===== -/
def fr178 (j : Int) (M M' : qM) : Prop := ∀ (k : Nat) (n s : Int), ¬ ((k = 84 ∨ k = 85 ∨ k = 86) ∧ n = 0 ∧ s = j) → M' k n s = M k n s
