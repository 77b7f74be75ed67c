theorem g_keepP_u {T O P P' : pT} {same : Int → Prop} {wo c c' : Int} {on : Prop} (h : g_keepP T O same wo on P c) (h' : g_keepP T O same wo on P' c') : c' = c ∧ g_eq P P' c := by
  rcases h with ⟨a1, a2⟩ | ⟨a1, a2⟩ <;> rcases h' with ⟨b1, b2⟩ | ⟨b1, b2⟩
  · exact g_kept_u a2 b2
  · exact absurd a1 b1
  · exact absurd b1 a1
  · exact ⟨by omega, fun j k _ k0 k1 => by omega⟩
theorem p_sum_cg {g g' : Int → Int} {b : Int} (hb : 0 ≤ b) (h : ∀ k, 0 ≤ k → k < b → g' k = g k) : p_sum g' b = p_sum g b := by
  refine q_upto (P := fun x => 0 ≤ x → p_sum g' x = p_sum g x → p_sum g' b = p_sum g b) hb (fun _ q => q) (fun x x0 x1 ih _ q => ih (by omega) ?_) (Int.le_refl _) rfl
  rw [p_sum_s x0, p_sum_s x0, q, h x x0 x1]
theorem g_kc_eq {T P P' : pT} {c k : Int} (h : g_eq P P' c) (hk : 0 ≤ k ∧ k < c) : g_kc T P' k = g_kc T P k := by
  obtain ⟨e0, e1, e2, e3⟩ := g_eq_bf h (k := k) ⟨hk.1, by omega⟩
  unfold g_kc
  rw [e0, e1, e2, e3, h 0 k (by decide) hk.1 hk.2, h 1 k (by decide) hk.1 hk.2]
/-- the pages of a chapter, and their cost, are determined -/
theorem g_made_u {T P P' : pT} {keep : pT → Int → Prop} {c c' cost cost' : Int} (hk : ∀ Q n Q' n', keep Q n → keep Q' n' → n' = n ∧ g_eq Q Q' n) (h : g_made T keep P c cost) (h' : g_made T keep P' c' cost') : c' = c ∧ g_eq P P' c ∧ cost' = cost := by
  obtain ⟨Q, n, a1, a2, a3, a4, a5, a6⟩ := h
  obtain ⟨Q', n', b1, b2, b3, b4, b5, b6⟩ := h'
  have u := hk Q n Q' n' a1 b1
  obtain ⟨rfl, e⟩ := u
  have n0 := a2.1.1
  have r := g_rest_u n0 e a5 b5
  obtain ⟨e0, e1, e2, e3⟩ := g_eq_bf e (k := n') ⟨n0, Int.le_refl _⟩
  refine ⟨r.1, r.2, ?_⟩
  rw [b6, a6, e0, e1, e2, e3, p_sum_cg n0 (fun k k0 k1 => g_kc_eq e ⟨k0, k1⟩)]
/-- either there are pages, or there are none -/
theorem g_made_none {T P : pT} {keep : pT → Int → Prop} {c cost : Int} (hk : ∀ Q n Q' n', keep Q n → keep Q' n' → n' = n ∧ g_eq Q Q' n) (h : g_made T keep P c cost) (h' : g_none T keep) : False := by
  obtain ⟨Q, n, a1, a2, a3, a4, a5, a6⟩ := h
  obtain ⟨Q', n', b1, b2, b3, b4⟩ := h'
  have u := hk Q n Q' n' a1 b1
  obtain ⟨rfl, e⟩ := u
  have n0 := a2.1.1
  obtain ⟨e0, e1, e2, e3⟩ := g_eq_bf e (k := n') ⟨n0, Int.le_refl _⟩
  rw [e0, e1, e2, e3] at b4
  exact b4 a4
