/-! ===== FacingleafModel.laysSums ===== -/
/-- words up to one are counted, in the model -/
def p_mw (A : pA) (c i w : Int) (M : qM) : Prop := M 94 0 c = p_FB A i w ∧ M 96 0 c = p_NB A i w ∧ ∀ i' w', 0 ≤ i' → 0 ≤ w' → w' < A 6 i' 0 → (i' < i ∨ (i' = i ∧ w' < w)) → (A 4 i' w' = 3 → M 95 0 (4 * c + p_FB A i' w') = p_id c i' w') ∧ (A 4 i' w' = 2 → ∀ k, 0 ≤ k → k < A 5 i' w' → M 97 0 (12 * c + (p_NB A i' w' + k)) = p_id c i' w' ∧ M 98 0 (12 * c + (p_NB A i' w' + k)) = k)
/-- what is summed up to a row -/
def p_mS (A : pA) (r : Int) (M : qM) : Prop := ∀ q, 0 ≤ q → q ≤ r → M 99 0 q = p_bl A q ∧ M 100 0 q = p_fl A q ∧ M 101 0 q = p_nl A q ∧ M 102 0 q = p_ls A q - 1
def fr181w (c r : Int) (M M' : qM) : Prop := ∀ (k : Nat) (m s : Int), ¬ (m = 0 ∧ (((k = 94 ∨ k = 96) ∧ s = c) ∨ (k = 95 ∧ 4 * c ≤ s ∧ s < 4 * c + 4) ∨ ((k = 97 ∨ k = 98) ∧ 12 * c ≤ s ∧ s < 12 * c + 12) ∨ (k = 102 ∧ s = r + 1))) → M' k m s = M k m s
def fr181 (c : Int) (M M' : qM) : Prop := ∀ (k : Nat) (m s : Int), ¬ (m = 0 ∧ (((k = 94 ∨ k = 96) ∧ s = c) ∨ (k = 95 ∧ 4 * c ≤ s ∧ s < 4 * c + 4) ∨ ((k = 97 ∨ k = 98) ∧ 12 * c ≤ s ∧ s < 12 * c + 12) ∨ (99 ≤ k ∧ k ≤ 102))) → M' k m s = M k m s
