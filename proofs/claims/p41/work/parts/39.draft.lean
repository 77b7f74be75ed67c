/-! ===== Facingleaf.draftWord, word, refer ===== -/
/-- the draft has room: it takes a word, and says how many it has -/
def qDraft (σ : qS) (w k v : Int) : qRQ := fun r σ' => (σ.2 5 0 (2 : Nat) < 20 ∧ r = .inl (some (.inl (σ.2 5 0 (2 : Nat) + 1))) ∧ σ' = v_addWord σ 0 w k v) ∨ (¬ σ.2 5 0 (2 : Nat) < 20 ∧ r = .inr 1 ∧ σ' = qBump σ 1 6)
theorem s_draftWord {d : Nat} {w k v : Int} {σ : qS} (hI : qSet σ) (hc : 0 ≤ σ.2 5 0 (2 : Nat)) : qJ (d + 2) 139 [.inr (.inl (some (10, 0))), .inl w, .inl k, .inl v] σ (qDraft σ w k v) := by
  refine qJ.flat 40 rfl (And.intro (hI.1 _ _ _ rfl) (And.intro (fun h => ?_) (fun h => Or.inr ⟨h, rfl, rfl⟩)))
  refine And.intro (hI.1 _ _ _ rfl) (And.intro rfl ((s_addWord hI hc).imp fun r σ' hr => ?_))
  obtain ⟨rfl, hσ⟩ := hr
  rw [if_pos h] at hσ
  subst hσ
  refine And.intro (hI.1 _ _ _ rfl) (Or.inl ⟨h, ?_, rfl⟩)
  have e : (v_addWord σ 0 w k v).2 5 0 (2 : Nat) = σ.2 5 0 (2 : Nat) + 1 := v_addWord_c
  rw [← e]
def qWordOK (w k v : Int) : Prop := (1 ≤ w ∧ w ≤ 8) ∧ qVal k v
theorem s_word {d : Nat} {w k v : Int} {σ : qS} (hI : qSet σ) (hc : 0 ≤ σ.2 5 0 (2 : Nat)) : qJ (d + 3) 97 [.inr (.inl (some (10, 0))), .inl w, .inl k, .inl v] σ (fun r σ' => (qWordOK w k v ∧ qDraft σ w k v r σ') ∨ (¬ qWordOK w k v ∧ r = .inr 0 ∧ σ' = qBump σ 1 6)) := by
  refine qJ.flat 40 rfl (And.intro (fun h => Or.inr ⟨fun q => by have := q.1; omega, rfl, rfl⟩) (fun h => And.intro (fun h2 => ?_) (fun h2 => Or.inr ⟨fun q => h2 q.1.2, rfl, rfl⟩)))
  refine And.intro rfl (s_isValue.imp fun r σ' hr => ?_)
  obtain ⟨hr, rfl⟩ := hr
  rcases hr with ⟨h3, rfl⟩ | ⟨h3, rfl⟩
  · refine And.intro (fun h1 => absurd h1 (by decide)) (fun _ => ?_)
    refine And.intro rfl ((s_draftWord hI hc).imp fun r σ'' hr => ?_)
    rcases hr with ⟨h4, rfl, rfl⟩ | ⟨h4, rfl, rfl⟩
    · exact Or.inl ⟨⟨⟨by omega, h2⟩, h3⟩, Or.inl ⟨h4, rfl, rfl⟩⟩
    · exact Or.inl ⟨⟨⟨by omega, h2⟩, h3⟩, Or.inr ⟨h4, rfl, rfl⟩⟩
  · exact And.intro (fun _ => Or.inr ⟨fun q => h3 q.2, rfl, rfl⟩) (fun h1 => absurd rfl h1)
theorem s_refer {d : Nat} {x : Int} {σ : qS} (hI : qSet σ) (hc : 0 ≤ σ.2 5 0 (2 : Nat)) : qJ (d + 3) 98 [.inr (.inl (some (10, 0))), .inl x] σ (fun r σ' => ((0 ≤ x ∧ x < 10) ∧ qDraft σ 0 6 x r σ') ∨ (¬ (0 ≤ x ∧ x < 10) ∧ r = .inr 0 ∧ σ' = qBump σ 1 6)) := by
  refine qJ.flat 40 rfl (And.intro rfl (s_isName.imp fun r σ' hr => ?_))
  obtain ⟨hr, rfl⟩ := hr
  rcases hr with ⟨h3, rfl⟩ | ⟨h3, rfl⟩
  · refine And.intro (fun h1 => absurd h1 (by decide)) (fun _ => ?_)
    refine And.intro rfl ((s_draftWord hI hc).imp fun r σ'' hr => ?_)
    rcases hr with ⟨h4, rfl, rfl⟩ | ⟨h4, rfl, rfl⟩
    · exact Or.inl ⟨h3, Or.inl ⟨h4, rfl, rfl⟩⟩
    · exact Or.inl ⟨h3, Or.inr ⟨h4, rfl, rfl⟩⟩
  · exact And.intro (fun _ => Or.inr ⟨h3, rfl, rfl⟩) (fun h1 => absurd rfl h1)
theorem s_clear {d : Nat} {σ : qS} (hI : qSet σ) : qJ (d + 1) 99 [.inr (.inl (some (10, 0)))] σ (fun r σ' => r = .inl (some (.inl (σ.2 5 0 (2 : Nat)))) ∧ σ' = qSetI σ 5 0 (2 : Nat) 0) :=
  qJ.flat 40 rfl (And.intro (hI.1 _ _ _ rfl) (And.intro (hI.1 _ _ _ rfl) ⟨rfl, rfl⟩))
