/-! ===== FacingleafModel: states; manyBare, not added ===== -/
/-- a state's number; y: how far the page on the left is filled, 0 if there is none -/
def m_st (T : pT) (a f n y : Int) : Int := ((a * 5 + f) * 4 + (T 2 a - n)) * 15 + y
def m_x (a y : Int) : Int := if a = 0 then 15 else y
def m_ok (T : pT) (a f n y : Int) : Prop := g_at T a f n ∧ (0 ≤ y ∧ y ≤ 14) ∧ (a = 0 → y = 0)
theorem m_st_p {T : pT} (hT : g_tab T) {a f n y : Int} (h : m_ok T a f n y) : (0 ≤ m_st T a f n y ∧ m_st T a f n y < (a + 1) * 300) ∧ m_st T a f n y / 300 = a ∧ m_st T a f n y / 60 % 5 = f ∧ T 2 a - m_st T a f n y / 15 % 4 = n ∧ m_st T a f n y % 15 = y := by
  obtain ⟨s, h2, h3⟩ := h
  have ta := g_tab_at hT s.1
  have hF := hT.2.2.1
  obtain ⟨s1, s2, s3⟩ := s
  unfold m_st
  omega
theorem m_far {T : pT} {a b f m n y : Int} (h : a = 0 → y = 0) : g_far T a b f m n (m_x a y) = g_far T a b f m n y := by
  unfold m_x
  by_cases k : a = 0
  · rw [if_pos k, h k]
    unfold g_far
    rw [if_neg (by decide), if_pos rfl, if_pos rfl]
  · rw [if_neg k]
theorem m_xb {a y : Int} (hy : 0 ≤ y ∧ y ≤ 14) : 0 ≤ m_x a y ∧ m_x a y ≤ 15 := by unfold m_x; split <;> omega
/-- the state behind a page -/
def m_nx (T : pT) (a f n y b m : Int) : Int := m_st T b (f + m) (n + g_lines T a b f m n) (g_ahead T a b f m n (m_x a y))
theorem m_next {T : pT} (hT : g_tab T) {a f n y b m : Int} (h : m_ok T a f n y) (hc : g_can T a f n b m) : m_ok T b (f + m) (n + g_lines T a b f m n) (g_ahead T a b f m n (m_x a y)) ∧ m_x b (g_ahead T a b f m n (m_x a y)) = g_ahead T a b f m n (m_x a y) := by
  have nn := (g_nums hT h.1 hc.1 ⟨hc.2.1.1, hc.2.1.2.2⟩).2.2.2.2.2 hc.2.2
  have h1 := h.1.1
  have h2 := hc.1
  refine ⟨⟨g_next hT h.1 hc.1 ⟨hc.2.1.1, hc.2.1.2.2⟩ hc.2.2, by unfold g_ahead; split <;> omega, fun q => by omega⟩, ?_⟩
  unfold m_x
  rw [if_neg (show ¬ b = 0 by omega)]
