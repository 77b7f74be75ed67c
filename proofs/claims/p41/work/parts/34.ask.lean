/-! ===== Facingleaf.checkWord, widthOf, lines, costOfLines, rows, broken, pages, cost ===== -/
/-- two conditions, one behind the other -/
def qSay2 (p1 : Prop) (e1 : Nat) (p2 : Prop) (e2 : Nat) (y : Option qV) (σ : qS) : qRQ := fun r σ' => (p1 ∧ p2 ∧ r = .inl y ∧ σ' = σ) ∨ (¬ p1 ∧ r = .inr e1 ∧ σ' = qBump σ 1 6) ∨ (p1 ∧ ¬ p2 ∧ r = .inr e2 ∧ σ' = qBump σ 1 6)
/-- the book is composed -/
def qMade (σ : qS) : Prop := σ.2 10 0 (13 : Nat) ≠ 0
/-- the edition that is asked -/
def qNow (σ : qS) : Int := σ.2 10 0 (8 : Nat) - 1
def qWd (σ : qS) (c i w : Int) : Prop := qIt σ c i ∧ 0 ≤ w ∧ w < σ.2 5 (1 + 10 * c + i) (2 : Nat)
theorem s_checkWord {d : Nat} {c i w : Int} {σ : qS} (hI : qSet σ) (hC : qChs σ) : qJ (d + 3) 135 [.inr (.inl (some (10, 0))), .inl c, .inl i, .inl w] σ (qSay (qWd σ c i w) 2 none σ) := by
  refine qJ.flat 40 rfl (And.intro rfl ((s_checkedItem hI hC).imp fun r σ' hr => ?_))
  rcases hr with ⟨hc, rfl, rfl⟩ | ⟨hc, rfl, rfl⟩
  · refine And.intro (fun h1 => Or.inr ⟨fun q => by have := q.2.1; omega, rfl, rfl⟩) (fun h1 => ?_)
    exact And.intro (fun h2 => And.intro rfl (Or.inl ⟨⟨hc, by omega, h2⟩, rfl, rfl⟩)) (fun h2 => Or.inr ⟨fun q => h2 q.2.2, rfl, rfl⟩)
  · exact Or.inr ⟨fun q => hc q.1, rfl, rfl⟩
theorem s_lines {d : Nat} {c i : Int} {σ : qS} (hI : qSet σ) (hC : qChs σ) : qJ (d + 3) 110 [.inr (.inl (some (10, 0))), .inl c, .inl i] σ (qSay2 (qIt σ c i) 2 (qMade σ) 1 (some (.inl (σ.2 5 (1 + 10 * c + i) (10 : Nat)))) σ) := by
  refine qJ.flat 40 rfl (And.intro rfl ((s_checkedItem hI hC).imp fun r σ' hr => ?_))
  rcases hr with ⟨hc, rfl, rfl⟩ | ⟨hc, rfl, rfl⟩
  · refine And.intro rfl (s_checkMade.imp fun r σ' hr => ?_)
    rcases hr with ⟨hm, rfl, rfl⟩ | ⟨hm, rfl, rfl⟩
    · exact Or.inl ⟨hc, hm, rfl, rfl⟩
    · exact Or.inr (Or.inr ⟨hc, hm, rfl, rfl⟩)
  · exact Or.inr (Or.inl ⟨hc, rfl, rfl⟩)
theorem s_costOfLines {d : Nat} {c i : Int} {σ : qS} (hI : qSet σ) (hC : qChs σ) : qJ (d + 3) 112 [.inr (.inl (some (10, 0))), .inl c, .inl i] σ (qSay2 (qIt σ c i) 2 (qMade σ) 1 (some (.inl (σ.2 5 (1 + 10 * c + i) (11 : Nat)))) σ) := by
  refine qJ.flat 40 rfl (And.intro rfl ((s_checkedItem hI hC).imp fun r σ' hr => ?_))
  rcases hr with ⟨hc, rfl, rfl⟩ | ⟨hc, rfl, rfl⟩
  · refine And.intro rfl (s_checkMade.imp fun r σ' hr => ?_)
    rcases hr with ⟨hm, rfl, rfl⟩ | ⟨hm, rfl, rfl⟩
    · exact Or.inl ⟨hc, hm, rfl, rfl⟩
    · exact Or.inr (Or.inr ⟨hc, hm, rfl, rfl⟩)
  · exact Or.inr (Or.inl ⟨hc, rfl, rfl⟩)
theorem s_widthOf {d : Nat} {c i w : Int} {σ : qS} (hI : qSet σ) (hC : qChs σ) (hit : ∀ c : Int, 0 ≤ c → c < 3 → qItems σ c) (hs : qIn (σ.2 32 (1 + 10 * c + i) w + σ.2 35 (1 + 10 * c + i) w)) : qJ (d + 4) 109 [.inr (.inl (some (10, 0))), .inl c, .inl i, .inl w] σ (qSay2 (qWd σ c i w) 2 (qMade σ) 1 (some (.inl (σ.2 32 (1 + 10 * c + i) w + σ.2 35 (1 + 10 * c + i) w))) σ) := by
  refine qJ.flat 40 rfl (And.intro rfl ((s_checkWord hI hC).imp fun r σ' hr => ?_))
  rcases hr with ⟨hc, rfl, rfl⟩ | ⟨hc, rfl, rfl⟩
  · refine And.intro rfl (s_checkMade.imp fun r σ' hr => ?_)
    rcases hr with ⟨hm, rfl, rfl⟩ | ⟨hm, rfl, rfl⟩
    · obtain ⟨⟨hc1, hc2, hc3⟩, hc4, hc5⟩ := id hc
      obtain ⟨g1, g2⟩ := hC c hc1.1 hc1.2
      obtain ⟨g3, g4⟩ := hit c hc1.1 hc1.2 i.toNat (by omega)
      rw [show ((i.toNat : Nat) : Int) = i by omega] at g3 g4
      refine And.intro (hI.1 _ _ _ rfl) ?_
      refine And.intro ⟨hc1.1, hc1.2, hI.2 _ _ _ rfl hc1.1 hc1.2⟩ ?_
      refine And.intro (hI.1 _ _ _ rfl) ?_
      refine And.intro ⟨hc2, by omega, hI.2 _ _ _ rfl hc2 (show i < 10 by omega)⟩ ?_
      refine And.intro rfl ((s_widthAt hI ⟨hc4, by omega⟩ hs).imp fun r σ' hr => ?_)
      obtain ⟨rfl, rfl⟩ := hr
      exact Or.inl ⟨hc, hm, rfl, rfl⟩
    · exact Or.inr (Or.inr ⟨hc, hm, rfl, rfl⟩)
  · exact Or.inr (Or.inl ⟨hc, rfl, rfl⟩)
theorem s_broken {d : Nat} {σ : qS} (hI : qSet σ) : qJ (d + 2) 114 [.inr (.inl (some (10, 0)))] σ (qSay (qMade σ) 1 (some (.inl (σ.2 2 0 (9 : Nat)))) σ) := by
  refine qJ.flat 40 rfl (And.intro rfl (s_checkMade.imp fun r σ' hr => ?_))
  rcases hr with ⟨hm, rfl, rfl⟩ | ⟨hm, rfl, rfl⟩
  · refine And.intro (hI.1 _ _ _ rfl) ?_
    exact Or.inl ⟨hm, rfl, rfl⟩
  · exact Or.inr ⟨hm, rfl, rfl⟩
theorem s_pages {d : Nat} {σ : qS} (hN : 0 < σ.2 10 0 (8 : Nat)) : qJ (d + 2) 115 [.inr (.inl (some (10, 0)))] σ (qSay (qMade σ) 1 (some (.inl (σ.2 3 (qNow σ) (5 : Nat)))) σ) := by
  refine qJ.flat 40 rfl (And.intro rfl (s_checkMade.imp fun r σ' hr => ?_))
  rcases hr with ⟨hm, rfl, rfl⟩ | ⟨hm, rfl, rfl⟩
  · refine And.intro (fun h => ?_) (And.intro (fun h => ?_) (fun h => ?_))
    · exfalso; omega
    · exact Or.inl ⟨hm, rfl, rfl⟩
    · exfalso; omega
  · exact Or.inr ⟨hm, rfl, rfl⟩
theorem s_rows {d : Nat} {c : Int} {σ : qS} (hI : qSet σ) (hN : 0 < σ.2 10 0 (8 : Nat)) : qJ (d + 2) 113 [.inr (.inl (some (10, 0))), .inl c] σ (qSay2 (0 ≤ c ∧ c < 3) 2 (qMade σ) 1 (some (.inl (σ.2 9 (1 + 3 * qNow σ + c) (0 : Nat)))) σ) := by
  refine qJ.flat 40 rfl (And.intro rfl (s_checkChapter.imp fun r σ' hr => ?_))
  rcases hr with ⟨hc, rfl, rfl⟩ | ⟨hc, rfl, rfl⟩
  · refine And.intro rfl (s_checkMade.imp fun r σ' hr => ?_)
    rcases hr with ⟨hm, rfl, rfl⟩ | ⟨hm, rfl, rfl⟩
    · refine And.intro (fun h => ?_) (And.intro (fun h => ?_) (fun h => ?_))
      · exfalso; omega
      · refine And.intro (hI.1 _ _ _ rfl) ?_
        refine And.intro ⟨hc.1, hc.2, hI.2 _ _ _ rfl hc.1 hc.2⟩ ?_
        exact Or.inl ⟨hc, hm, rfl, rfl⟩
      · exfalso; omega
    · exact Or.inr (Or.inr ⟨hc, hm, rfl, rfl⟩)
  · exact Or.inr (Or.inl ⟨hc, rfl, rfl⟩)
theorem s_cost {d : Nat} {c : Int} {σ : qS} (hI : qSet σ) (hN : 0 < σ.2 10 0 (8 : Nat)) : qJ (d + 2) 120 [.inr (.inl (some (10, 0))), .inl c] σ (qSay2 (0 ≤ c ∧ c < 3) 2 (qMade σ) 1 (some (.inl (σ.2 8 (0 + 3 * qNow σ + c) (3 : Nat)))) σ) := by
  refine qJ.flat 40 rfl (And.intro rfl (s_checkChapter.imp fun r σ' hr => ?_))
  rcases hr with ⟨hc, rfl, rfl⟩ | ⟨hc, rfl, rfl⟩
  · refine And.intro rfl (s_checkMade.imp fun r σ' hr => ?_)
    rcases hr with ⟨hm, rfl, rfl⟩ | ⟨hm, rfl, rfl⟩
    · refine And.intro (fun h => ?_) (And.intro (fun h => ?_) (fun h => ?_))
      · exfalso; omega
      · refine And.intro (hI.1 _ _ _ rfl) ?_
        refine And.intro ⟨hc.1, hc.2, hI.2 _ _ _ rfl hc.1 hc.2⟩ ?_
        exact Or.inl ⟨hc, hm, rfl, rfl⟩
      · exfalso; omega
    · exact Or.inr (Or.inr ⟨hc, hm, rfl, rfl⟩)
  · exact Or.inr (Or.inl ⟨hc, rfl, rfl⟩)
