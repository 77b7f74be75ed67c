/-! ===== FacingleafModel: pages without rows, heads, the paragraphs of a round ===== -/
def b_hd (M : qM) (x : Int) : Int := if M 65 0 x = 0 then 0 else 1
/-- a paragraph is broken anew -/
noncomputable def m_rg (M : qM) (x : Int) : Int := if x % 10 < M 64 0 (x / 10) then @ite Int (M 65 0 x = 0 ∧ ¬ p_mkept M x) (Classical.propDecidable _) 1 0 else 0
theorem m_rg_b {M : qM} {x : Int} : 0 ≤ m_rg M x ∧ m_rg M x ≤ 1 := by
  unfold m_rg
  split
  · split <;> omega
  · omega
def m_new (M M' : qM) (W x : Int) : Prop := M' 79 0 x = W ∧ (∀ j, 0 ≤ j → j < M 67 0 x → M' 80 0 (20 * x + j) = M 69 0 (20 * x + j) + M 76 0 (20 * x + j)) ∧ p_lined (fun i => M 69 0 (20 * x + i) + M 76 0 (20 * x + i)) (M 67 0 x) W (M' 81 0 x) (M' 83 0 x) (fun s => M' 82 0 (20 * x + s))
def m_same (M M' : qM) (x : Int) : Prop := M' 79 0 x = M 79 0 x ∧ M' 81 0 x = M 81 0 x ∧ M' 83 0 x = M 83 0 x ∧ ∀ j, 0 ≤ j → j < 20 → M' 80 0 (20 * x + j) = M 80 0 (20 * x + j) ∧ M' 82 0 (20 * x + j) = M 82 0 (20 * x + j)
def m_item (M M' : qM) (W x : Int) : Prop := (m_rg M x = 1 → m_new M M' W x) ∧ (m_rg M x = 0 → m_same M M' x)
def frMr (M M' : qM) : Prop := ∀ (k : Nat) (m s : Int), ¬ (m = 0 ∧ ((79 ≤ k ∧ k ≤ 83 ∧ 0 ≤ s) ∨ (84 ≤ k ∧ k ≤ 86) ∨ (k = 11 ∧ s = 23) ∨ ((k = 114 ∨ k = 115 ∨ k = 87 ∨ k = 116 ∨ k = 94 ∨ k = 96) ∧ 0 ≤ s ∧ s < 3))) → M' k m s = M k m s
def m_dn (M M' : qM) (W X C : Int) : Prop := frMr M M' ∧ M' 11 0 23 = M 11 0 23 + p_sum (m_rg M) X ∧ (∀ x, 0 ≤ x → x < X → m_item M M' W x) ∧ (∀ x, X ≤ x → m_same M M' x) ∧ ∀ c, 0 ≤ c → c < C → M' 114 0 c = -1 ∧ M' 115 0 c = -1 ∧ M' 87 0 c = 0 ∧ M' 116 0 c = 0
theorem m_same_tr {M M1 M2 : qM} {x : Int} (h1 : m_same M M1 x) (h2 : m_same M1 M2 x) : m_same M M2 x := by
  obtain ⟨a1, a2, a3, a4⟩ := h1
  obtain ⟨b1, b2, b3, b4⟩ := h2
  exact ⟨by rw [b1, a1], by rw [b2, a2], by rw [b3, a3], fun j j0 j1 => ⟨by rw [(b4 j j0 j1).1, (a4 j j0 j1).1], by rw [(b4 j j0 j1).2, (a4 j j0 j1).2]⟩⟩
theorem p_lined_cg {w : Int → Int} {n W lc lcost : Int} {le le' : Int → Int} (h : p_lined w n W lc lcost le) (hl : ∀ s, 0 ≤ s → s < n → le' s = le s) : p_lined w n W lc lcost le' := by
  obtain ⟨C, L, E, h1, h2, h3, h4, h5, h6⟩ := h
  exact ⟨C, L, E, h1, h2, h3, h4, h5, fun s hs => by rw [hl s (by omega) (by omega)]; exact h6 s hs⟩
theorem m_item_tr {M M1 M2 : qM} {W x : Int} (hn : 0 ≤ M 67 0 x ∧ M 67 0 x ≤ 20) (h1 : m_item M M1 W x) (h2 : m_same M1 M2 x) : m_item M M2 W x := by
  refine ⟨fun q => ?_, fun q => m_same_tr (h1.2 q) h2⟩
  obtain ⟨a1, a2, a3⟩ := h1.1 q
  obtain ⟨b1, b2, b3, b4⟩ := h2
  refine ⟨by rw [b1, a1], fun j j0 j1 => by rw [(b4 j j0 (by omega)).1]; exact a2 j j0 j1, ?_⟩
  rw [b2, b3]
  exact p_lined_cg a3 (fun s s0 s1 => (b4 s s0 (by omega)).2)
