/-! ===== rows of a chapter in the model, with a bound on their items ===== -/
def m_88 (M M' : qM) : Prop := ∀ s, M' 88 0 s = M 88 0 s ∨ (0 ≤ M' 88 0 s ∧ M' 88 0 s < 10)
theorem m_88_t {M M1 M2 : qM} (h : m_88 M M1) (h' : m_88 M1 M2) : m_88 M M2 := fun s => by
  rcases h' s with a | a
  · rcases h s with b | b
    · exact Or.inl (by rw [a, b])
    · exact Or.inr (by rw [a]; exact b)
  · exact Or.inr a
