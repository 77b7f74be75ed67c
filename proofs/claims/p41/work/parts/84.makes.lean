/-! ===== FacingleafModel.makes ===== -/
/-- the pages of a chapter: some are kept, the rest is best -/
def g_made (T : pT) (keep : pT → Int → Prop) (P : pT) (c cost : Int) : Prop := ∃ Pk ck, keep Pk ck ∧ g_some T Pk ck ∧ (g_bf Pk 0 ck < T 8 0) ∧ g_V T g_I (g_bf Pk 0 ck) (g_bf Pk 1 ck) (g_bf Pk 2 ck) (g_x Pk ck) < g_I ∧ g_rest T Pk ck P c ∧ cost = p_sum (g_kc T Pk) ck + g_V T g_I (g_bf Pk 0 ck) (g_bf Pk 1 ck) (g_bf Pk 2 ck) (g_x Pk ck)
/-- there are none -/
def g_none (T : pT) (keep : pT → Int → Prop) : Prop := ∃ Pk ck, keep Pk ck ∧ g_some T Pk ck ∧ (g_bf Pk 0 ck < T 8 0) ∧ ¬ g_V T g_I (g_bf Pk 0 ck) (g_bf Pk 1 ck) (g_bf Pk 2 ck) (g_x Pk ck) < g_I
def fr202m (c p0 : Int) (M M' : qM) : Prop := ∀ (k : Nat) (m s : Int), ¬ (m = 0 ∧ ((k = 11 ∧ 51 ≤ s ∧ s ≤ 58) ∨ (105 ≤ k ∧ k ≤ 113 ∧ p0 < s) ∨ (k = 92 ∧ 70 * c ≤ s ∧ s < 70 * c + 70) ∨ ((k = 114 ∨ k = 115 ∨ k = 116) ∧ s = c) ∨ k = 103 ∨ k = 104 ∨ ((k = 94 ∨ k = 96) ∧ s = c) ∨ (k = 95 ∧ 4 * c ≤ s ∧ s < 4 * c + 4) ∨ ((k = 97 ∨ k = 98) ∧ 12 * c ≤ s ∧ s < 12 * c + 12) ∨ (99 ≤ k ∧ k ≤ 102))) → M' k m s = M k m s
def fr202a (c p0 : Int) (M M' : qM) : Prop := ∀ (k : Nat) (m s : Int), ¬ (m = 0 ∧ ((k = 11 ∧ 51 ≤ s ∧ s ≤ 58) ∨ (105 ≤ k ∧ k ≤ 113 ∧ p0 < s) ∨ (k = 92 ∧ 70 * c ≤ s ∧ s < 70 * c + 70) ∨ ((k = 115 ∨ k = 116) ∧ s = c) ∨ k = 103 ∨ k = 104)) → M' k m s = M k m s
