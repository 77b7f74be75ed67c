/-! ===== head ===== -/
theorem y_cs_lim {B : pT} {c : Int} (hB : c_ok B) (hc : 0 ≤ c ∧ c < 3) : y_cs B 3 c (-1) ≤ 4 ∧ y_cs B 2 c (-1) ≤ 12 ∧ y_cs B (-1) c (-1) ≤ 60 := by
  obtain ⟨n10, l3, l2, l1⟩ := hB.1 c hc.1 hc.2
  have e : ∀ t, y_cs B t c (-1) = p_sum (fun j => y_item B t (10 * c + j)) (B 0 c) := fun t => p_sum_cg n10.1 (fun j j0 j1 => by
    show y_cg B t c (-1) j = y_item B t (10 * c + j)
    unfold y_cg
    rw [if_neg (by omega)])
  rw [e 3, e 2, e (-1), ← y_SF n10 hB.2.1, ← y_SN n10 hB.2.1]
  refine ⟨l3, l2, ?_⟩
  have e1 : p_sum (fun j => y_item B (-1) (10 * c + j)) (B 0 c) = p_sum (fun i => B 3 (10 * c + i)) (B 0 c) := p_sum_cg n10.1 (fun j j0 j1 => y_item_w hB)
  rw [e1]; exact l1
