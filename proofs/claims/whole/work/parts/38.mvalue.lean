/-! ===== FacingleafModel.isValue; Facingleaf.wordId; Breaker.writeLines ===== -/
theorem s_MisValue {d : Nat} {k v : Int} {σ : qS} : qJ (d + 2) 161 [.inl k, .inl v] σ (qYes (qVal k v) σ) := by
  by_cases hk : k < 0 ∨ 5 < k
  · exact qJ.flat 20 rfl (And.intro (fun _ => And.intro ⟨rfl, Or.inl rfl⟩ ⟨Or.inr ⟨by unfold qVal; omega, rfl⟩, rfl⟩) (fun h => absurd hk h))
  · rcases (show k = 0 ∨ k = 1 ∨ k = 2 ∨ k = 3 ∨ k = 4 ∨ k = 5 by omega) with rfl | rfl | rfl | rfl | rfl | rfl
    · exact qJ.flat 20 rfl (And.intro (fun h => absurd h hk) (fun _ => And.intro (fun h => And.intro ⟨rfl, Or.inr rfl⟩ ⟨Or.inl ⟨by unfold qVal; omega, rfl⟩, rfl⟩) (fun h => And.intro ⟨rfl, Or.inl rfl⟩ ⟨Or.inr ⟨by unfold qVal; omega, rfl⟩, rfl⟩)))
    all_goals
      refine qJ.flat 20 rfl (And.intro (fun h => absurd h hk) (fun _ => And.intro rfl (s_Min.imp fun r σ' hr => ?_)))
      obtain ⟨hr, rfl⟩ := hr
      rcases hr with ⟨h, rfl⟩ | ⟨h, rfl⟩
      · exact And.intro ⟨rfl, Or.inr rfl⟩ ⟨Or.inl ⟨by unfold qVal; omega, rfl⟩, rfl⟩
      · exact And.intro ⟨rfl, Or.inl rfl⟩ ⟨Or.inr ⟨by unfold qVal; omega, rfl⟩, rfl⟩
theorem s_wordId {d : Nat} {c i w : Int} {σ : qS} (hc : 0 ≤ c ∧ c < 3) (hi : 0 ≤ i ∧ i < 10) (hw : -100 ≤ w ∧ w ≤ 100) : qJ (d + 1) 147 [.inl c, .inl i, .inl w] σ (fun r σ' => r = .inl (some (.inl ((c * 10 + i) * 20 + w))) ∧ σ' = σ) := by
  refine qJ.flat 40 rfl ?_
  refine And.intro (show qIn (c * 10) from ⟨by omega, by omega⟩) ?_
  refine And.intro (show qIn (c * 10 + i) from ⟨by omega, by omega⟩) ?_
  refine And.intro (show qIn ((c * 10 + i) * 20) from ⟨by omega, by omega⟩) ?_
  refine And.intro (show qIn ((c * 10 + i) * 20 + w) from ⟨by omega, by omega⟩) ?_
  exact ⟨rfl, rfl⟩
