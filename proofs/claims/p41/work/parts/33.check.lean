/-! ===== Facingleaf.checkChapter, checkMade, checkedItem, items, words ===== -/
/-- it says y and leaves all, or throws e -/
def qSay (p : Prop) (e : Nat) (y : Option qV) (σ : qS) : qRQ := fun r σ' => (p ∧ r = .inl y ∧ σ' = σ) ∨ (¬ p ∧ r = .inr e ∧ σ' = qBump σ 1 6)
theorem s_checkChapter {d : Nat} {c : Int} {σ : qS} : qJ (d + 1) 133 [.inr (.inl (some (10, 0))), .inl c] σ (qSay (0 ≤ c ∧ c < 3) 2 none σ) :=
  qJ.flat 20 rfl (And.intro (fun h => Or.inr ⟨by omega, rfl, rfl⟩) (fun h => And.intro (fun h2 => And.intro rfl (Or.inl ⟨⟨by omega, h2⟩, rfl, rfl⟩)) (fun h2 => Or.inr ⟨by omega, rfl, rfl⟩)))
theorem s_checkMade {d : Nat} {σ : qS} : qJ (d + 1) 138 [.inr (.inl (some (10, 0)))] σ (qSay (σ.2 10 0 (13 : Nat) ≠ 0) 1 none σ) :=
  qJ.flat 20 rfl (And.intro (fun h => Or.inr ⟨fun q => q h, rfl, rfl⟩) (fun h => And.intro rfl (Or.inl ⟨h, rfl, rfl⟩)))
/-- there is such an item -/
def qIt (σ : qS) (c i : Int) : Prop := (0 ≤ c ∧ c < 3) ∧ 0 ≤ i ∧ i < σ.2 1 c (1 : Nat)
/-- the chapters have at most 10 items each -/
def qChs (σ : qS) : Prop := ∀ c : Int, 0 ≤ c → c < 3 → 0 ≤ σ.2 1 c (1 : Nat) ∧ σ.2 1 c (1 : Nat) ≤ 10
theorem s_checkedItem {d : Nat} {c i : Int} {σ : qS} (hI : qSet σ) (hC : qChs σ) : qJ (d + 2) 134 [.inr (.inl (some (10, 0))), .inl c, .inl i] σ (qSay (qIt σ c i) 2 (some (.inr (.inl (some (5, 1 + 10 * c + i))))) σ) := by
  refine qJ.flat 40 rfl (And.intro rfl (s_checkChapter.imp fun r σ' hr => ?_))
  rcases hr with ⟨hc, rfl, rfl⟩ | ⟨hc, rfl, rfl⟩
  · obtain ⟨g1, g2⟩ := hC c hc.1 hc.2
    refine And.intro (fun h1 => Or.inr ⟨fun q => by have := q.2.1; omega, rfl, rfl⟩) (fun h1 => ?_)
    refine And.intro (hI.1 _ _ _ rfl) ?_
    refine And.intro ⟨hc.1, hc.2, hI.2 _ _ _ rfl hc.1 hc.2⟩ ?_
    refine And.intro (fun h2 => ?_) (fun h2 => Or.inr ⟨fun q => h2 q.2.2, rfl, rfl⟩)
    refine And.intro (hI.1 _ _ _ rfl) ?_
    refine And.intro ⟨hc.1, hc.2, hI.2 _ _ _ rfl hc.1 hc.2⟩ ?_
    refine And.intro (hI.1 _ _ _ rfl) ?_
    refine And.intro ⟨by omega, by omega, hI.2 _ _ _ rfl (by omega) (show i < 10 by omega)⟩ ?_
    exact And.intro rfl (Or.inl ⟨⟨hc, by omega, h2⟩, rfl, rfl⟩)
  · exact Or.inr ⟨fun q => hc q.1, rfl, rfl⟩
theorem s_items {d : Nat} {c : Int} {σ : qS} (hI : qSet σ) : qJ (d + 2) 107 [.inr (.inl (some (10, 0))), .inl c] σ (qSay (0 ≤ c ∧ c < 3) 2 (some (.inl (σ.2 1 c (1 : Nat)))) σ) := by
  refine qJ.flat 40 rfl (And.intro rfl (s_checkChapter.imp fun r σ' hr => ?_))
  rcases hr with ⟨hc, rfl, rfl⟩ | ⟨hc, rfl, rfl⟩
  · refine And.intro (hI.1 _ _ _ rfl) ?_
    refine And.intro ⟨hc.1, hc.2, hI.2 _ _ _ rfl hc.1 hc.2⟩ ?_
    exact Or.inl ⟨hc, rfl, rfl⟩
  · exact Or.inr ⟨hc, rfl, rfl⟩
theorem s_words {d : Nat} {c i : Int} {σ : qS} (hI : qSet σ) (hC : qChs σ) : qJ (d + 3) 108 [.inr (.inl (some (10, 0))), .inl c, .inl i] σ (qSay (qIt σ c i) 2 (some (.inl (σ.2 5 (1 + 10 * c + i) (2 : Nat)))) σ) := by
  refine qJ.flat 40 rfl (And.intro rfl ((s_checkedItem hI hC).imp fun r σ' hr => ?_))
  rcases hr with ⟨hc, rfl, rfl⟩ | ⟨hc, rfl, rfl⟩
  · exact Or.inl ⟨hc, rfl, rfl⟩
  · exact Or.inr ⟨hc, rfl, rfl⟩
