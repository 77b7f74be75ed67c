/-! ===== Facingleaf.isName, digitsOf, sheetsFor, isValue; FacingleafModel.digits ===== -/
theorem s_isName {d : Nat} {x : Int} {σ : qS} : qJ (d + 1) 145 [.inl x] σ (qYes (0 ≤ x ∧ x < 10) σ) :=
  qJ.flat 20 rfl (And.intro (fun h => And.intro ⟨rfl, Or.inl rfl⟩ ⟨Or.inr ⟨by omega, rfl⟩, rfl⟩) (fun h => And.intro (fun h2 => And.intro ⟨rfl, Or.inr rfl⟩ ⟨Or.inl ⟨⟨by omega, h2⟩, rfl⟩, rfl⟩) (fun h2 => And.intro ⟨rfl, Or.inl rfl⟩ ⟨Or.inr ⟨by omega, rfl⟩, rfl⟩)))
/-- how many digits -/
def v_dig (x : Int) : Int := if x < 10 then 1 else if x < 100 then 2 else 3
theorem s_digitsOf {d : Nat} {x : Int} {σ : qS} : qJ (d + 1) 148 [.inl x] σ (fun r σ' => r = .inl (some (.inl (v_dig x))) ∧ σ' = σ) :=
  qJ.flat 20 rfl (And.intro (fun h => ⟨by unfold v_dig; rw [if_pos h], rfl⟩) (fun h => And.intro (fun h2 => ⟨by unfold v_dig; rw [if_neg h, if_pos h2], rfl⟩) (fun h2 => ⟨by unfold v_dig; rw [if_neg h, if_neg h2], rfl⟩)))
theorem s_sheetsFor {d : Nat} {x : Int} {σ : qS} (hx : 0 ≤ x ∧ x ≤ 1000000) : qJ (d + 1) 144 [.inl x] σ (fun r σ' => r = .inl (some (.inl ((x + 3) / 4))) ∧ σ' = σ) := by
  refine qJ.flat 20 rfl ?_
  refine And.intro (show qIn (x + 3) from ⟨by omega, by omega⟩) ?_
  refine And.intro (show 0 ≤ x + 3 ∧ (0 : Int) < 4 from ⟨by omega, by omega⟩) ?_
  exact ⟨rfl, rfl⟩
/-- a kind of word, and a value that it may have -/
def qVal (k v : Int) : Prop := (k = 0 ∧ v = 0) ∨ (k = 1 ∧ 0 ≤ v ∧ v < 10) ∨ (k = 2 ∧ 1 ≤ v ∧ v ≤ 4) ∨ (k = 3 ∧ 2 ≤ v ∧ v ≤ 5) ∨ (k = 4 ∧ 0 ≤ v ∧ v < 10) ∨ (k = 5 ∧ 1 ≤ v ∧ v ≤ 3)
theorem qYes.cg {p q : Prop} {σ σ' : qS} {r : qR} (h : p ↔ q) (hr : qYes p σ r σ') : qYes q σ r σ' := by
  obtain ⟨h1, h2⟩ := hr
  refine ⟨?_, h2⟩
  rcases h1 with ⟨h1, h3⟩ | ⟨h1, h3⟩
  · exact Or.inl ⟨h.mp h1, h3⟩
  · exact Or.inr ⟨fun z => h1 (h.mpr z), h3⟩
theorem s_isValue {d : Nat} {k v : Int} {σ : qS} : qJ (d + 2) 146 [.inl k, .inl v] σ (qYes (qVal k v) σ) := by
  by_cases hk : k < 0 ∨ 5 < k
  · exact qJ.flat 20 rfl (And.intro (fun _ => And.intro ⟨rfl, Or.inl rfl⟩ ⟨Or.inr ⟨by unfold qVal; omega, rfl⟩, rfl⟩) (fun h => absurd hk h))
  · rcases (show k = 0 ∨ k = 1 ∨ k = 2 ∨ k = 3 ∨ k = 4 ∨ k = 5 by omega) with rfl | rfl | rfl | rfl | rfl | rfl
    · exact qJ.flat 20 rfl (And.intro (fun h => absurd h hk) (fun _ => And.intro (fun h => And.intro ⟨rfl, Or.inr rfl⟩ ⟨Or.inl ⟨by unfold qVal; omega, rfl⟩, rfl⟩) (fun h => And.intro ⟨rfl, Or.inl rfl⟩ ⟨Or.inr ⟨by unfold qVal; omega, rfl⟩, rfl⟩)))
    · refine qJ.flat 20 rfl (And.intro (fun h => absurd h hk) (fun _ => And.intro rfl (s_isName.imp fun r σ' hr => ?_)))
      obtain ⟨hr, rfl⟩ := hr
      rcases hr with ⟨h, rfl⟩ | ⟨h, rfl⟩
      · exact And.intro ⟨rfl, Or.inr rfl⟩ ⟨Or.inl ⟨by unfold qVal; omega, rfl⟩, rfl⟩
      · exact And.intro ⟨rfl, Or.inl rfl⟩ ⟨Or.inr ⟨by unfold qVal; omega, rfl⟩, rfl⟩
    · exact qJ.flat 20 rfl (And.intro (fun h => absurd h hk) (fun _ => And.intro (fun h => And.intro ⟨rfl, Or.inl rfl⟩ ⟨Or.inr ⟨by unfold qVal; omega, rfl⟩, rfl⟩) (fun h => And.intro (fun h2 => And.intro ⟨rfl, Or.inr rfl⟩ ⟨Or.inl ⟨by unfold qVal; omega, rfl⟩, rfl⟩) (fun h2 => And.intro ⟨rfl, Or.inl rfl⟩ ⟨Or.inr ⟨by unfold qVal; omega, rfl⟩, rfl⟩))))
    · exact qJ.flat 20 rfl (And.intro (fun h => absurd h hk) (fun _ => And.intro (fun h => And.intro ⟨rfl, Or.inl rfl⟩ ⟨Or.inr ⟨by unfold qVal; omega, rfl⟩, rfl⟩) (fun h => And.intro (fun h2 => And.intro ⟨rfl, Or.inr rfl⟩ ⟨Or.inl ⟨by unfold qVal; omega, rfl⟩, rfl⟩) (fun h2 => And.intro ⟨rfl, Or.inl rfl⟩ ⟨Or.inr ⟨by unfold qVal; omega, rfl⟩, rfl⟩))))
    · refine qJ.flat 20 rfl (And.intro (fun h => absurd h hk) (fun _ => And.intro rfl (s_isName.imp fun r σ' hr => ?_)))
      obtain ⟨hr, rfl⟩ := hr
      rcases hr with ⟨h, rfl⟩ | ⟨h, rfl⟩
      · exact And.intro ⟨rfl, Or.inr rfl⟩ ⟨Or.inl ⟨by unfold qVal; omega, rfl⟩, rfl⟩
      · exact And.intro ⟨rfl, Or.inl rfl⟩ ⟨Or.inr ⟨by unfold qVal; omega, rfl⟩, rfl⟩
    · exact qJ.flat 20 rfl (And.intro (fun h => absurd h hk) (fun _ => And.intro (fun h => And.intro ⟨rfl, Or.inl rfl⟩ ⟨Or.inr ⟨by unfold qVal; omega, rfl⟩, rfl⟩) (fun h => And.intro (fun h2 => And.intro ⟨rfl, Or.inr rfl⟩ ⟨Or.inl ⟨by unfold qVal; omega, rfl⟩, rfl⟩) (fun h2 => And.intro ⟨rfl, Or.inl rfl⟩ ⟨Or.inr ⟨by unfold qVal; omega, rfl⟩, rfl⟩))))
