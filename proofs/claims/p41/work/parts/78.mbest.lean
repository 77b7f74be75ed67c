/-! ===== FacingleafModel.addsBest, manyBare that adds ===== -/
/-- the two bounds agree -/
theorem g_V_I {T : pT} (hT : g_tab T) : ∀ (t : Nat) (a f n x : Int), T 8 0 - a ≤ t → g_at T a f n → (0 ≤ x ∧ x ≤ 15) → (g_V T g_I a f n x = g_I ∧ g_V T m_I a f n x = m_I) ∨ (g_V T g_I a f n x = g_V T m_I a f n x ∧ g_V T g_I a f n x ≤ 500 * (T 8 0 - a) + 100)
  | t, a, f, n, x, ht, hs, hx => by
    have tR := g_tab_at hT hs.1
    by_cases ha : T 8 0 ≤ a
    · rw [g_V_end ha, g_V_end ha]
      have := (g_bN_s hT (f := f) (n := n) ⟨hs.2.1.1, by have := hs.2.1; omega⟩ ⟨by have := hs.2.2; omega, by have := hs.2.2; omega⟩).1
      have hs1 := hs.1
      right; omega
    · match t, ht with
      | 0, ht => omega
      | t + 1, ht =>
      obtain ⟨u1, u2, u3⟩ := g_V_p (T := T) (I := g_I) (a := a) (f := f) (n := n) (x := x) (by omega)
      obtain ⟨v1, v2, v3⟩ := g_V_p (T := T) (I := m_I) (a := a) (f := f) (n := n) (x := x) (by omega)
      -- of each way
      have way : ∀ b m, g_can T a f n b m → (g_I ≤ g_val T g_I a f n x b m ∧ m_I ≤ g_val T m_I a f n x b m) ∨ (g_val T g_I a f n x b m = g_val T m_I a f n x b m ∧ g_val T g_I a f n x b m ≤ 500 * (T 8 0 - a) + 100) := by
        intro b m hc
        have nums := g_nums hT hs hc.1 ⟨hc.2.1.1, hc.2.1.2.2⟩
        have nn := nums.2.2.2.2.2 hc.2.2
        have fb := g_far_bd (T := T) (a := a) (b := b) (f := f) (m := m) (n := n) nn.2.2.2.1 hx
        have := g_V_I hT t b (f + m) (n + g_lines T a b f m n) (g_ahead T a b f m n x) (by have := hc.1; omega) (g_next hT hs hc.1 ⟨hc.2.1.1, hc.2.1.2.2⟩ hc.2.2) (by unfold g_ahead; split <;> omega)
        have hcb := hc.1
        have e1 : g_I = 268435456 := rfl
        have e2 : m_I = 536870912 := rfl
        unfold g_val
        omega
      have b70 := hT.1
      by_cases hlt : g_V T g_I a f n x < g_I
      · right
        rcases u3 with u3 | ⟨b, m, hc, u3⟩
        · omega
        · have w := way b m hc
          have w2 := v2 b m hc
          rcases w with w | w
          · omega
          · have e1 : g_I = 268435456 := rfl
            have e2 : m_I = 536870912 := rfl
            have : g_V T m_I a f n x < m_I := by omega
            rcases v3 with v3 | ⟨b', m', hc', v3⟩
            · omega
            · have w' := way b' m' hc'
              have w3 := u2 b' m' hc'
              have hs1 := hs.1
              omega
      · left
        refine ⟨by omega, ?_⟩
        rcases v3 with v3 | ⟨b', m', hc', v3⟩
        · exact v3
        · have w' := way b' m' hc'
          have w3 := u2 b' m' hc'
          have e1 : g_I = 268435456 := rfl
          have e2 : m_I = 536870912 := rfl
          have hs1 := hs.1
          omega
theorem g_best_I {T : pT} (hT : g_tab T) {a f n x b m : Int} (hs : g_at T a f n) (ha : a < T 8 0) (hx : 0 ≤ x ∧ x ≤ 15) (hV : g_V T g_I a f n x < g_I) (h : g_best T m_I a f n x b m) : g_best T g_I a f n x b m := by
  have e1 : g_I = 268435456 := rfl
  have e2 : m_I = 536870912 := rfl
  have h70 := hT.1
  have hs1 := hs.1
  have way : ∀ b m, g_can T a f n b m → (g_I ≤ g_val T g_I a f n x b m ∧ m_I ≤ g_val T m_I a f n x b m) ∨ (g_val T g_I a f n x b m = g_val T m_I a f n x b m) := by
    intro b m hc
    have nums := g_nums hT hs hc.1 ⟨hc.2.1.1, hc.2.1.2.2⟩
    have nn := nums.2.2.2.2.2 hc.2.2
    have fb := g_far_bd (T := T) (a := a) (b := b) (f := f) (m := m) (n := n) nn.2.2.2.1 hx
    have hcb := hc.1
    have := g_V_I hT (T 8 0 - b).toNat b (f + m) (n + g_lines T a b f m n) (g_ahead T a b f m n x) (by omega) (g_next hT hs hc.1 ⟨hc.2.1.1, hc.2.1.2.2⟩ hc.2.2) (by unfold g_ahead; split <;> omega)
    unfold g_val
    omega
  have hVV := g_V_I hT (T 8 0 - a).toNat a f n x (by omega) hs hx
  obtain ⟨h1, h2, h3⟩ := h
  refine ⟨h1, ?_, fun b' m' hc' hb' => ?_⟩
  · have := way b m h1; omega
  · have w := way b' m' hc'
    have := h3 b' m' hc' hb'
    omega
/-- what the model knows from state a on -/
def m_know (T : pT) (a : Int) (M : qM) : Prop := ∀ b f' n' y', m_ok T b f' n' y' → a ≤ b → b < T 8 0 → M 103 0 (m_st T b f' n' y') = 1 → M 104 0 (m_st T b f' n' y') = g_V T m_I b f' n' (m_x b y') ∧ ∀ b' m', g_can T b f' n' b' m' → b' < T 8 0 → M 103 0 (m_nx T b f' n' y' b' m') = 1
