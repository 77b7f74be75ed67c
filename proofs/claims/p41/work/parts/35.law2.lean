/-! ===== FacingleafLaw.items, words, broken, rows; FacingleafModel.thrown, in, least, isChapter, isItem, items, words ===== -/
/-- what a call of the law leaves: 0 and the value in the cell, or the number of the catch -/
def qGot (p : Prop) (x : Int) (e : Int) (σ : qS) : qRQ := fun r σ' => (p ∧ r = .inl (some (.inl 0)) ∧ σ' = qSetI σ 138 0 0 x) ∨ (¬ p ∧ r = .inl (some (.inl e)) ∧ σ' = qBump σ 1 6)
def qGot2 (p1 : Prop) (e1 : Int) (p2 : Prop) (e2 : Int) (x : Int) (σ : qS) : qRQ := fun r σ' => (p1 ∧ p2 ∧ r = .inl (some (.inl 0)) ∧ σ' = qSetI σ 138 0 0 x) ∨ (¬ p1 ∧ r = .inl (some (.inl e1)) ∧ σ' = qBump σ 1 6) ∨ (p1 ∧ ¬ p2 ∧ r = .inl (some (.inl e2)) ∧ σ' = qBump σ 1 6)
/-! the model -/
/-- a boolean answer, nothing changed -/
def qYes (p : Prop) (σ : qS) : qRQ := fun r σ' => ((p ∧ r = .inl (some (.inl 1))) ∨ (¬ p ∧ r = .inl (some (.inl 0)))) ∧ σ' = σ
/-- the model's answer: the number of what is thrown (0: nothing), the value -/
def qAns (p : Prop) (x e : Int) (σ : qS) : qRQ := fun r σ' => (p ∧ r = .inl (some (.inl x)) ∧ σ' = qSetI σ 11 0 (0 : Nat) 0) ∨ (¬ p ∧ r = .inl (some (.inl 0)) ∧ σ' = qSetI σ 11 0 (0 : Nat) e)
