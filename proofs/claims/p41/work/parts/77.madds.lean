/-! ===== FacingleafModel.addsPage, addsTried ===== -/
/-- the pages of chapter c behind page p0, in the memory of the model -/
def g_mP (P : pT) (cnt p0 c : Int) (M : qM) : Prop := M 11 0 58 = p0 + cnt ∧ ∀ k, 0 ≤ k → k < cnt → (M 105 0 (p0 + 1 + k) = c ∧ M 106 0 (p0 + 1 + k) = g_bf P 0 k ∧ M 107 0 (p0 + 1 + k) = P 0 k - g_bf P 0 k ∧ M 108 0 (p0 + 1 + k) = g_bf P 1 k ∧ M 109 0 (p0 + 1 + k) = P 1 k - g_bf P 1 k ∧ M 110 0 (p0 + 1 + k) = g_bf P 2 k ∧ M 111 0 (p0 + 1 + k) = P 2 k - g_bf P 2 k ∧ M 112 0 (p0 + 1 + k) = P 3 k ∧ M 113 0 (p0 + 1 + k) = P 4 k) ∧ ∀ r, g_bf P 0 k ≤ r → r < P 0 k → M 92 0 (70 * c + r) = p0 + 1 + k
def fr195 (c a : Int) (p0 : Int) (M M' : qM) : Prop := ∀ (k : Nat) (m s : Int), ¬ (m = 0 ∧ ((k = 11 ∧ (s = 58 ∨ (51 ≤ s ∧ s ≤ 57))) ∨ (105 ≤ k ∧ k ≤ 113 ∧ p0 < s) ∨ (k = 92 ∧ 70 * c + a ≤ s ∧ s < 70 * c + 70) ∨ (k = 116 ∧ s = c))) → M' k m s = M k m s
theorem g_mP_add {P P' : pT} {cnt p0 c : Int} {M M' : qM} (hc : 0 ≤ cnt) (h : g_mP P cnt p0 c M) (hold : ∀ j k, k < cnt → P' j k = P j k) (hmono : ∀ k, 0 ≤ k → k < cnt → P 0 k ≤ g_bf P 0 cnt) (h58 : M' 11 0 58 = p0 + 1 + cnt)
    (O : ∀ (k : Nat) (s : Int), (105 ≤ k ∧ k ≤ 113 ∧ s < p0 + 1 + cnt) ∨ (k = 92 ∧ s < 70 * c + g_bf P 0 cnt) → M' k 0 s = M k 0 s)
    (v : M' 105 0 (p0 + 1 + cnt) = c ∧ M' 106 0 (p0 + 1 + cnt) = g_bf P 0 cnt ∧ M' 107 0 (p0 + 1 + cnt) = P' 0 cnt - g_bf P 0 cnt ∧ M' 108 0 (p0 + 1 + cnt) = g_bf P 1 cnt ∧ M' 109 0 (p0 + 1 + cnt) = P' 1 cnt - g_bf P 1 cnt ∧ M' 110 0 (p0 + 1 + cnt) = g_bf P 2 cnt ∧ M' 111 0 (p0 + 1 + cnt) = P' 2 cnt - g_bf P 2 cnt ∧ M' 112 0 (p0 + 1 + cnt) = P' 3 cnt ∧ M' 113 0 (p0 + 1 + cnt) = P' 4 cnt)
    (vr : ∀ r, g_bf P 0 cnt ≤ r → r < P' 0 cnt → M' 92 0 (70 * c + r) = p0 + 1 + cnt) : g_mP P' (cnt + 1) p0 c M' := by
  refine ⟨by omega, fun k k0 k1 => ?_⟩
  by_cases e : k = cnt
  · subst e
    obtain ⟨f0, f1, f2, _⟩ := g_bf_c hold (k := k) (Int.le_refl _)
    rw [f0, f1, f2]
    exact ⟨v, vr⟩
  · obtain ⟨f0, f1, f2, _⟩ := g_bf_c hold (k := k) (by omega)
    have hk := h.2 k k0 (by omega)
    rw [f0, f1, f2, hold 0 k (by omega), hold 1 k (by omega), hold 2 k (by omega), hold 3 k (by omega), hold 4 k (by omega)]
    rw [O 105 _ (by omega), O 106 _ (by omega), O 107 _ (by omega), O 108 _ (by omega), O 109 _ (by omega), O 110 _ (by omega), O 111 _ (by omega), O 112 _ (by omega), O 113 _ (by omega)]
    refine ⟨hk.1, fun r r0 r1 => ?_⟩
    have := hmono k k0 (by omega)
    rw [O 92 _ (by omega)]
    exact hk.2 r r0 r1
/-- how far the page on the left is filled, for the model -/
def m_y (P : pT) (k : Int) : Int := if k = 0 then 0 else g_x P k
theorem m_y_p {P : pT} {k : Int} (hk : 0 ≤ k) (h0 : 0 < k → 1 ≤ g_bf P 0 k) (hfi : ∀ j, 0 ≤ j → j < k → 1 ≤ P 4 j ∧ P 4 j ≤ 14) : m_x (g_bf P 0 k) (m_y P k) = g_x P k ∧ (0 ≤ m_y P k ∧ m_y P k ≤ 14) ∧ (g_bf P 0 k = 0 → m_y P k = 0) := by
  by_cases e : k = 0
  · subst e
    have e0 : g_bf P 0 0 = 0 := by unfold g_bf; rw [if_pos (Int.le_refl _)]
    have ex : g_x P 0 = 15 := by unfold g_x; rw [if_pos rfl]
    have ey : m_y P 0 = 0 := by unfold m_y; rw [if_pos rfl]
    rw [e0, ex, ey]
    unfold m_x
    rw [if_pos rfl]
    omega
  · have h1 := h0 (by omega)
    have ey : m_y P k = g_x P k := by unfold m_y; rw [if_neg e]
    rw [ey]
    unfold m_x
    rw [if_neg (by omega)]
    refine ⟨rfl, ?_, fun q => by omega⟩
    unfold g_x
    rw [if_neg e]
    split
    · have := hfi (k - 1) (by omega) (by omega); omega
    · omega
