/-! ===== Pages.begin, rowsBefore, floatsBefore, notesBefore; FacingleafModel.asks, broken, pages ===== -/
theorem s_Pbegin {d : Nat} {n x : Int} {σ : qS} : qJ (d + 1) 80 [.inr (.inl (some (8, n))), .inl x] σ (fun r σ' => r = .inl none ∧ σ' = qSetI (qSetI (qSetI (qSetI σ 8 n (0 : Nat) x) 8 n (1 : Nat) 0) 8 n (2 : Nat) 0) 8 n (3 : Nat) 0) :=
  qJ.flat 40 rfl (And.intro rfl ⟨rfl, rfl⟩)
theorem s_rowsBefore {d : Nat} {n p : Int} {σ : qS} (hI : qSet σ) (hp : -1000 ≤ p ∧ p ≤ 86) : qJ (d + 1) 82 [.inr (.inl (some (8, n))), .inl p] σ (fun r σ' => r = .inl (some (.inl (if p ≤ 0 then 0 else σ.2 43 n (p - 1)))) ∧ σ' = σ) := by
  refine qJ.flat 40 rfl (And.intro (fun h => ⟨by rw [if_pos h], rfl⟩) (fun h => ?_))
  refine And.intro (hI.1 _ _ _ rfl) (And.intro (show qIn (p - 1) from ⟨by omega, by omega⟩) (And.intro (show 0 ≤ p - 1 ∧ p - 1 < 86 from ⟨by omega, by omega⟩) ?_))
  exact ⟨by rw [if_neg h], rfl⟩
theorem s_floatsBefore {d : Nat} {n p : Int} {σ : qS} (hI : qSet σ) (hp : -1000 ≤ p ∧ p ≤ 86) : qJ (d + 1) 83 [.inr (.inl (some (8, n))), .inl p] σ (fun r σ' => r = .inl (some (.inl (if p ≤ 0 then 0 else σ.2 44 n (p - 1)))) ∧ σ' = σ) := by
  refine qJ.flat 40 rfl (And.intro (fun h => ⟨by rw [if_pos h], rfl⟩) (fun h => ?_))
  refine And.intro (hI.1 _ _ _ rfl) (And.intro (show qIn (p - 1) from ⟨by omega, by omega⟩) (And.intro (show 0 ≤ p - 1 ∧ p - 1 < 86 from ⟨by omega, by omega⟩) ?_))
  exact ⟨by rw [if_neg h], rfl⟩
theorem s_notesBefore {d : Nat} {n p : Int} {σ : qS} (hI : qSet σ) (hp : -1000 ≤ p ∧ p ≤ 86) : qJ (d + 1) 84 [.inr (.inl (some (8, n))), .inl p] σ (fun r σ' => r = .inl (some (.inl (if p ≤ 0 then 0 else σ.2 45 n (p - 1)))) ∧ σ' = σ) := by
  refine qJ.flat 40 rfl (And.intro (fun h => ⟨by rw [if_pos h], rfl⟩) (fun h => ?_))
  refine And.intro (hI.1 _ _ _ rfl) (And.intro (show qIn (p - 1) from ⟨by omega, by omega⟩) (And.intro (show 0 ≤ p - 1 ∧ p - 1 < 86 from ⟨by omega, by omega⟩) ?_))
  exact ⟨by rw [if_neg h], rfl⟩
