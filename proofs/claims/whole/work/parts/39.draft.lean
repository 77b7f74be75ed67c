/-! ===== Facingleaf.draftWord, word, refer ===== -/
/-- the draft has room: it takes a word, and says how many it has -/
def qDraft (σ : qS) (w k v : Int) : qRQ := fun r σ' => (σ.2 5 0 (2 : Nat) < 20 ∧ r = .inl (some (.inl (σ.2 5 0 (2 : Nat) + 1))) ∧ σ' = v_addWord σ 0 w k v) ∨ (¬ σ.2 5 0 (2 : Nat) < 20 ∧ r = .inr 1 ∧ σ' = qBump σ 1 6)
theorem s_draftWord {d : Nat} {w k v : Int} {σ : qS} (hI : qSet σ) (hc : 0 ≤ σ.2 5 0 (2 : Nat)) : qJ (d + 2) 139 [.inr (.inl (some (10, 0))), .inl w, .inl k, .inl v] σ (qDraft σ w k v) := by
  refine qJ.flat 40 rfl (And.intro (hI.1 _ _ _ rfl) (And.intro (fun h => ?_) (fun h => Or.inr ⟨h, rfl, rfl⟩)))
  refine And.intro (hI.1 _ _ _ rfl) (And.intro rfl ((s_addWord hI hc).imp fun r σ' hr => ?_))
  obtain ⟨rfl, hσ⟩ := hr
  rw [if_pos h] at hσ
  subst hσ
  refine And.intro (hI.1 _ _ _ rfl) (Or.inl ⟨h, ?_, rfl⟩)
  have e : (v_addWord σ 0 w k v).2 5 0 (2 : Nat) = σ.2 5 0 (2 : Nat) + 1 := v_addWord_c
  rw [← e]
