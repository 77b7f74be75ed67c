/-! ===== FacingleafModel.manyBare that adds; the rest of a chapter's pages ===== -/
def fr202 (c p0 : Int) (M M' : qM) : Prop := ∀ (k : Nat) (m s : Int), ¬ (m = 0 ∧ ((k = 11 ∧ 51 ≤ s ∧ s ≤ 58) ∨ (105 ≤ k ∧ k ≤ 113 ∧ p0 < s) ∨ (k = 92 ∧ 70 * c ≤ s ∧ s < 70 * c + 70) ∨ ((k = 115 ∨ k = 116) ∧ s = c))) → M' k m s = M k m s
