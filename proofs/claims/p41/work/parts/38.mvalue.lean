/-! ===== FacingleafModel.isValue; Facingleaf.wordId; Breaker.writeLines ===== -/
theorem s_wordId {d : Nat} {c i w : Int} {σ : qS} (hc : 0 ≤ c ∧ c < 3) (hi : 0 ≤ i ∧ i < 10) (hw : -100 ≤ w ∧ w ≤ 100) : qJ (d + 1) 147 [.inl c, .inl i, .inl w] σ (fun r σ' => r = .inl (some (.inl ((c * 10 + i) * 20 + w))) ∧ σ' = σ) := by
  refine qJ.flat 40 rfl ?_
  refine And.intro (show qIn (c * 10) from ⟨by omega, by omega⟩) ?_
  refine And.intro (show qIn (c * 10 + i) from ⟨by omega, by omega⟩) ?_
  refine And.intro (show qIn ((c * 10 + i) * 20) from ⟨by omega, by omega⟩) ?_
  refine And.intro (show qIn ((c * 10 + i) * 20 + w) from ⟨by omega, by omega⟩) ?_
  exact ⟨rfl, rfl⟩
