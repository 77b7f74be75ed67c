/-! ===== FacingleafModel.idOf, addsRow, laysRows ===== -/
def p_id (c i w : Int) : Int := 20 * (10 * c + i) + w
/-- a chapter in the memory of the model -/
def p_mrep (A : pA) (M : qM) (c i : Int) : Prop := M 65 0 (10 * c + i) = A 0 i 0 ∧ M 66 0 (10 * c + i) = A 1 i 0 ∧ (A 0 i 0 = 0 → M 81 0 (10 * c + i) = A 2 i 0) ∧ M 67 0 (10 * c + i) = A 6 i 0 ∧ (∀ s, 0 ≤ s → s < A 2 i 0 → A 0 i 0 = 0 → M 82 0 (20 * (10 * c + i) + s) = A 3 i s) ∧ ∀ w, 0 ≤ w → w < 20 → M 70 0 (p_id c i w) = A 4 i w ∧ M 71 0 (p_id c i w) = A 5 i w
def p_mR (A : pA) (c r : Int) (M : qM) : Prop := M 87 0 c = r ∧ ∀ q, 0 ≤ q → q < r → M 88 0 (70 * c + q) = p_ri A q ∧ M 89 0 (70 * c + q) = p_rl A q ∧ M 90 0 (70 * c + q) = p_fr A q ∧ M 91 0 (70 * c + q) = p_to A q ∧ ∀ w, p_fr A q ≤ w → w < p_to A q → M 93 0 (p_id c (p_ri A q) w) = q
def fr179 (c : Int) (M M' : qM) : Prop := ∀ (k : Nat) (m s : Int), ¬ (m = 0 ∧ ((k = 87 ∧ s = c) ∨ (88 ≤ k ∧ k ≤ 91 ∧ 70 * c ≤ s ∧ s < 70 * c + 70) ∨ (k = 93 ∧ 200 * c ≤ s ∧ s < 200 * c + 200))) → M' k m s = M k m s
def fr180 (c : Int) (M M' : qM) : Prop := fr179 c M M'
