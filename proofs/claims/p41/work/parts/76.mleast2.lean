/-! ===== FacingleafModel.leastFrom ===== -/
theorem m_st_u {T : pT} (hT : g_tab T) {a f n y a' f' n' y' : Int} (h : m_ok T a f n y) (h' : m_ok T a' f' n' y') (e : m_st T a f n y = m_st T a' f' n' y') : a = a' ∧ f = f' ∧ n = n' ∧ y = y' := by
  have p := m_st_p hT h
  have p' := m_st_p hT h'
  rw [e] at p
  have ea : a = a' := by omega
  subst ea
  omega
/-- what is reached from a state, and the least costs there -/
def m_done (T : pT) (M : qM) : Prop := ∀ a f n y, m_ok T a f n y → a < T 8 0 → M 103 0 (m_st T a f n y) = 1 → M 104 0 (m_st T a f n y) = g_V T m_I a f n (m_x a y) ∧ ∀ b m, g_can T a f n b m → b < T 8 0 → M 103 0 (m_nx T a f n y b m) = 1
def fr194 (M M' : qM) : Prop := ∀ (k : Nat) (m s : Int), ¬ (k = 11 ∧ m = 0 ∧ 51 ≤ s ∧ s ≤ 57) → ¬ ((k = 103 ∨ k = 104) ∧ m = 0) → M' k m s = M k m s
