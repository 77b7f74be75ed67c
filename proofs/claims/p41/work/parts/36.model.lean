/-! ===== FacingleafModel.isWord, idOf, words, wide, sumOfDraft ===== -/
/-- the model's counts are in their bounds -/
def qMc (σ : qS) : Prop := (∀ c : Int, 0 ≤ c → c < 3 → 0 ≤ σ.2 64 0 c ∧ σ.2 64 0 c ≤ 10) ∧ ∀ k : Int, 0 ≤ k → k < 30 → 0 ≤ σ.2 67 0 k ∧ σ.2 67 0 k ≤ 20
def qMit (σ : qS) (c i : Int) : Prop := (0 ≤ c ∧ c < 3) ∧ 0 ≤ i ∧ i < σ.2 64 0 c
def qMwd (σ : qS) (c i w : Int) : Prop := qMit σ c i ∧ 0 ≤ w ∧ w < σ.2 67 0 (10 * c + i)
def v_sumOfDraft (σ : qS) (c b : Int) : Nat → Int
  | 0 => 0
  | j + 1 => v_sumOfDraft σ c b j + (if c = -1 then 1 else if σ.2 73 0 (j : Int) = c then (if b = 0 then 1 else σ.2 74 0 (j : Int)) else 0)
