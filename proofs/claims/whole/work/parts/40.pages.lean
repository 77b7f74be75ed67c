/-! ===== Pages.begin, rowsBefore, floatsBefore, notesBefore; FacingleafModel.asks, broken, pages ===== -/
theorem s_Pbegin {d : Nat} {n x : Int} {σ : qS} : qJ (d + 1) 80 [.inr (.inl (some (8, n))), .inl x] σ (fun r σ' => r = .inl none ∧ σ' = qSetI (qSetI (qSetI (qSetI σ 8 n (0 : Nat) x) 8 n (1 : Nat) 0) 8 n (2 : Nat) 0) 8 n (3 : Nat) 0) :=
  qJ.flat 40 rfl (And.intro rfl ⟨rfl, rfl⟩)
theorem s_rowsBefore {d : Nat} {n p : Int} {σ : qS} (hI : qSet σ) (hp : -1000 ≤ p ∧ p ≤ 86) : qJ (d + 1) 82 [.inr (.inl (some (8, n))), .inl p] σ (fun r σ' => r = .inl (some (.inl (if p ≤ 0 then 0 else σ.2 43 n (p - 1)))) ∧ σ' = σ) := by
  refine qJ.flat 40 rfl (And.intro (fun h => ⟨by rw [if_pos h], rfl⟩) (fun h => ?_))
  refine And.intro (hI.1 _ _ _ rfl) (And.intro (show qIn (p - 1) from ⟨by omega, by omega⟩) (And.intro (show 0 ≤ p - 1 ∧ p - 1 < 86 from ⟨by omega, by omega⟩) ?_))
  exact ⟨by rw [if_neg h], rfl⟩
theorem s_floatsBefore {d : Nat} {n p : Int} {σ : qS} (hI : qSet σ) (hp : -1000 ≤ p ∧ p ≤ 86) : qJ (d + 1) 83 [.inr (.inl (some (8, n))), .inl p] σ (fun r σ' => r = .inl (some (.inl (if p ≤ 0 then 0 else σ.2 44 n (p - 1)))) ∧ σ' = σ) := by
  refine qJ.flat 40 rfl (And.intro (fun h => ⟨by rw [if_pos h], rfl⟩) (fun h => ?_))
  refine And.intro (hI.1 _ _ _ rfl) (And.intro (show qIn (p - 1) from ⟨by omega, by omega⟩) (And.intro (show 0 ≤ p - 1 ∧ p - 1 < 86 from ⟨by omega, by omega⟩) ?_))
  exact ⟨by rw [if_neg h], rfl⟩
theorem s_notesBefore {d : Nat} {n p : Int} {σ : qS} (hI : qSet σ) (hp : -1000 ≤ p ∧ p ≤ 86) : qJ (d + 1) 84 [.inr (.inl (some (8, n))), .inl p] σ (fun r σ' => r = .inl (some (.inl (if p ≤ 0 then 0 else σ.2 45 n (p - 1)))) ∧ σ' = σ) := by
  refine qJ.flat 40 rfl (And.intro (fun h => ⟨by rw [if_pos h], rfl⟩) (fun h => ?_))
  refine And.intro (hI.1 _ _ _ rfl) (And.intro (show qIn (p - 1) from ⟨by omega, by omega⟩) (And.intro (show 0 ≤ p - 1 ∧ p - 1 < 86 from ⟨by omega, by omega⟩) ?_))
  exact ⟨by rw [if_neg h], rfl⟩
/-- the model asks whether the book is composed -/
theorem s_Masks {d : Nat} {σ : qS} : qJ (d + 1) 233 [.inr (.inl (some (11, 0)))] σ (fun r σ' => (σ.2 11 0 (22 : Nat) ≠ 0 ∧ r = .inl (some (.inl 1)) ∧ σ' = qSetI σ 11 0 (0 : Nat) 0) ∨ (σ.2 11 0 (22 : Nat) = 0 ∧ r = .inl (some (.inl 0)) ∧ σ' = qSetI σ 11 0 (0 : Nat) 1)) := by
  refine qJ.flat 40 rfl (And.intro (fun h => ?_) (fun h => ?_))
  · refine And.intro (fun h1 => ?_) (fun _ => And.intro ⟨rfl, Or.inl rfl⟩ (Or.inr ⟨h, rfl, rfl⟩))
    have h2 : (qSetI σ 11 0 (0 : Nat) 1).2 11 0 (0 : Nat) = 0 := h1
    rw [qM_same] at h2
    exact absurd h2 (by decide)
  · exact And.intro (fun _ => And.intro ⟨rfl, Or.inr rfl⟩ (Or.inl ⟨h, rfl, rfl⟩)) (fun h1 => absurd (show (qSetI σ 11 0 (0 : Nat) 0).2 11 0 (0 : Nat) = 0 from qM_same) h1)
theorem s_Mbroken {d : Nat} {σ : qS} : qJ (d + 2) 234 [.inr (.inl (some (11, 0)))] σ (qAns (σ.2 11 0 (22 : Nat) ≠ 0) (σ.2 11 0 (23 : Nat)) 1 σ) := by
  refine qJ.flat 40 rfl (And.intro rfl (s_Masks.imp fun r σ' hr => ?_))
  rcases hr with ⟨h, rfl, rfl⟩ | ⟨h, rfl, rfl⟩
  · exact And.intro (fun h1 => absurd h1 (by decide)) (fun _ => Or.inl ⟨h, rfl, rfl⟩)
  · exact And.intro (fun _ => Or.inr ⟨fun q => q h, rfl, rfl⟩) (fun h1 => absurd rfl h1)
theorem s_Mpages {d : Nat} {σ : qS} : qJ (d + 2) 235 [.inr (.inl (some (11, 0)))] σ (qAns (σ.2 11 0 (22 : Nat) ≠ 0) (σ.2 11 0 (58 : Nat)) 1 σ) := by
  refine qJ.flat 40 rfl (And.intro rfl (s_Masks.imp fun r σ' hr => ?_))
  rcases hr with ⟨h, rfl, rfl⟩ | ⟨h, rfl, rfl⟩
  · exact And.intro (fun h1 => absurd h1 (by decide)) (fun _ => Or.inl ⟨h, rfl, rfl⟩)
  · exact And.intro (fun _ => Or.inr ⟨fun q => q h, rfl, rfl⟩) (fun h1 => absurd rfl h1)
