/-! ===== FacingleafLaw.items, words, broken, rows; FacingleafModel.thrown, in, least, isChapter, isItem, items, words ===== -/
/-- what a call of the law leaves: 0 and the value in the cell, or the number of the catch -/
def qGot (p : Prop) (x : Int) (e : Int) (σ : qS) : qRQ := fun r σ' => (p ∧ r = .inl (some (.inl 0)) ∧ σ' = qSetI σ 138 0 0 x) ∨ (¬ p ∧ r = .inl (some (.inl e)) ∧ σ' = qBump σ 1 6)
def qGot2 (p1 : Prop) (e1 : Int) (p2 : Prop) (e2 : Int) (x : Int) (σ : qS) : qRQ := fun r σ' => (p1 ∧ p2 ∧ r = .inl (some (.inl 0)) ∧ σ' = qSetI σ 138 0 0 x) ∨ (¬ p1 ∧ r = .inl (some (.inl e1)) ∧ σ' = qBump σ 1 6) ∨ (p1 ∧ ¬ p2 ∧ r = .inl (some (.inl e2)) ∧ σ' = qBump σ 1 6)
theorem s_Litems {d : Nat} {c : Int} {σ : qS} (hI : qSet σ) : qJ (d + 3) 278 [.inr (.inl (some (10, 0))), .inl c, .inr (.inl (some (138, 0)))] σ (qGot (0 ≤ c ∧ c < 3) (σ.2 1 c (1 : Nat)) 1 σ) := by
  refine qJ.flat 40 rfl (And.intro rfl ((s_items hI).imp fun r σ' hr => ?_))
  rcases hr with ⟨hc, rfl, rfl⟩ | ⟨hc, rfl, rfl⟩
  · exact And.intro ⟨by decide, by decide⟩ (Or.inl ⟨hc, rfl, rfl⟩)
  · exact Or.inr ⟨hc, rfl, rfl⟩
theorem s_Lwords {d : Nat} {c i : Int} {σ : qS} (hI : qSet σ) (hC : qChs σ) : qJ (d + 4) 279 [.inr (.inl (some (10, 0))), .inl c, .inl i, .inr (.inl (some (138, 0)))] σ (qGot (qIt σ c i) (σ.2 5 (1 + 10 * c + i) (2 : Nat)) 1 σ) := by
  refine qJ.flat 40 rfl (And.intro rfl ((s_words hI hC).imp fun r σ' hr => ?_))
  rcases hr with ⟨hc, rfl, rfl⟩ | ⟨hc, rfl, rfl⟩
  · exact And.intro ⟨by decide, by decide⟩ (Or.inl ⟨hc, rfl, rfl⟩)
  · exact Or.inr ⟨hc, rfl, rfl⟩
theorem s_Lbroken {d : Nat} {σ : qS} (hI : qSet σ) : qJ (d + 3) 285 [.inr (.inl (some (10, 0))), .inr (.inl (some (138, 0)))] σ (qGot (qMade σ) (σ.2 2 0 (9 : Nat)) 1 σ) := by
  refine qJ.flat 40 rfl (And.intro rfl ((s_broken hI).imp fun r σ' hr => ?_))
  rcases hr with ⟨hc, rfl, rfl⟩ | ⟨hc, rfl, rfl⟩
  · exact And.intro ⟨by decide, by decide⟩ (Or.inl ⟨hc, rfl, rfl⟩)
  · exact Or.inr ⟨hc, rfl, rfl⟩
theorem s_Lrows {d : Nat} {c : Int} {σ : qS} (hI : qSet σ) (hN : 0 < σ.2 10 0 (8 : Nat)) : qJ (d + 3) 284 [.inr (.inl (some (10, 0))), .inl c, .inr (.inl (some (138, 0)))] σ (qGot2 (0 ≤ c ∧ c < 3) 1 (qMade σ) 2 (σ.2 9 (1 + 3 * qNow σ + c) (0 : Nat)) σ) := by
  refine qJ.flat 40 rfl (And.intro rfl ((s_rows hI hN).imp fun r σ' hr => ?_))
  rcases hr with ⟨hc, hm, rfl, rfl⟩ | ⟨hc, rfl, rfl⟩ | ⟨hc, hm, rfl, rfl⟩
  · exact And.intro ⟨by decide, by decide⟩ (Or.inl ⟨hc, hm, rfl, rfl⟩)
  · exact Or.inr (Or.inl ⟨hc, rfl, rfl⟩)
  · exact Or.inr (Or.inr ⟨hc, hm, rfl, rfl⟩)
/-! the model -/
/-- a boolean answer, nothing changed -/
def qYes (p : Prop) (σ : qS) : qRQ := fun r σ' => ((p ∧ r = .inl (some (.inl 1))) ∨ (¬ p ∧ r = .inl (some (.inl 0)))) ∧ σ' = σ
theorem s_Mthrown {d : Nat} {σ : qS} : qJ (d + 1) 151 [.inr (.inl (some (11, 0)))] σ (fun r σ' => r = .inl (some (.inl (σ.2 11 0 (0 : Nat)))) ∧ σ' = σ) :=
  qJ.flat 20 rfl ⟨rfl, rfl⟩
theorem s_Min {d : Nat} {x y z : Int} {σ : qS} : qJ (d + 1) 152 [.inl x, .inl y, .inl z] σ (qYes (y ≤ x ∧ x ≤ z) σ) :=
  qJ.flat 20 rfl (And.intro (fun h => And.intro ⟨rfl, Or.inl rfl⟩ ⟨Or.inr ⟨by omega, rfl⟩, rfl⟩) (fun h => And.intro (fun h2 => And.intro ⟨rfl, Or.inr rfl⟩ ⟨Or.inl ⟨⟨by omega, h2⟩, rfl⟩, rfl⟩) (fun h2 => And.intro ⟨rfl, Or.inl rfl⟩ ⟨Or.inr ⟨by omega, rfl⟩, rfl⟩)))
theorem s_Mleast {d : Nat} {x y : Int} {σ : qS} : qJ (d + 1) 153 [.inl x, .inl y] σ (fun r σ' => r = .inl (some (.inl (if x < y then x else y))) ∧ σ' = σ) :=
  qJ.flat 20 rfl (And.intro (fun h => And.intro (by rw [if_pos h]) rfl) (fun h => And.intro (by rw [if_neg h]) rfl))
theorem s_MisChapter {d : Nat} {c : Int} {σ : qS} : qJ (d + 2) 155 [.inl c] σ (qYes (0 ≤ c ∧ c < 3) σ) := by
  refine qJ.flat 20 rfl (And.intro rfl (s_Min.imp fun r σ' hr => ?_))
  obtain ⟨hr, rfl⟩ := hr
  rcases hr with ⟨h, rfl⟩ | ⟨h, rfl⟩
  · exact And.intro ⟨rfl, Or.inr rfl⟩ ⟨Or.inl ⟨by omega, rfl⟩, rfl⟩
  · exact And.intro ⟨rfl, Or.inl rfl⟩ ⟨Or.inr ⟨by omega, rfl⟩, rfl⟩
theorem s_MisItem {d : Nat} {c i : Int} {σ : qS} (hI : qSet σ) (hc : ∀ c : Int, 0 ≤ c → c < 3 → 0 ≤ σ.2 64 0 c ∧ σ.2 64 0 c ≤ 10) : qJ (d + 3) 156 [.inr (.inl (some (11, 0))), .inl c, .inl i] σ (qYes ((0 ≤ c ∧ c < 3) ∧ 0 ≤ i ∧ i < σ.2 64 0 c) σ) := by
  refine qJ.flat 40 rfl (And.intro rfl (s_MisChapter.imp fun r σ' hr => ?_))
  obtain ⟨hr, rfl⟩ := hr
  rcases hr with ⟨h, rfl⟩ | ⟨h, rfl⟩
  · obtain ⟨g1, g2⟩ := hc c h.1 h.2
    refine And.intro (fun h1 => absurd h1 (by decide)) (fun _ => ?_)
    refine And.intro (hI.1 _ _ _ rfl) ?_
    refine And.intro h ?_
    refine And.intro (show qIn (_ - 1) from ⟨by omega, by omega⟩) ?_
    refine And.intro rfl (s_Min.imp fun r σ' hr => ?_)
    obtain ⟨hr, rfl⟩ := hr
    rcases hr with ⟨h2, rfl⟩ | ⟨h2, rfl⟩
    · exact And.intro (fun h1 => absurd h1 (by decide)) (fun _ => And.intro ⟨rfl, Or.inr rfl⟩ ⟨Or.inl ⟨⟨h, by omega⟩, rfl⟩, rfl⟩)
    · exact And.intro (fun _ => And.intro ⟨rfl, Or.inl rfl⟩ ⟨Or.inr ⟨fun q => h2 (by omega), rfl⟩, rfl⟩) (fun h1 => absurd rfl h1)
  · exact And.intro (fun _ => And.intro ⟨rfl, Or.inl rfl⟩ ⟨Or.inr ⟨fun q => h q.1, rfl⟩, rfl⟩) (fun h1 => absurd rfl h1)
/-- the model's answer: the number of what is thrown (0: nothing), the value -/
def qAns (p : Prop) (x e : Int) (σ : qS) : qRQ := fun r σ' => (p ∧ r = .inl (some (.inl x)) ∧ σ' = qSetI σ 11 0 (0 : Nat) 0) ∨ (¬ p ∧ r = .inl (some (.inl 0)) ∧ σ' = qSetI σ 11 0 (0 : Nat) e)
theorem s_Mitems {d : Nat} {c : Int} {σ : qS} (hI : qSet σ) : qJ (d + 3) 222 [.inr (.inl (some (11, 0))), .inl c] σ (qAns (0 ≤ c ∧ c < 3) (σ.2 64 0 c) 1 σ) := by
  refine qJ.flat 40 rfl (And.intro rfl (s_MisChapter.imp fun r σ' hr => ?_))
  obtain ⟨hr, rfl⟩ := hr
  rcases hr with ⟨h, rfl⟩ | ⟨h, rfl⟩
  · refine And.intro (fun h1 => absurd h1 (by decide)) (fun _ => ?_)
    refine And.intro (fun _ => ?_) (fun h1 => absurd (show (qSetI σ' 11 0 (0 : Nat) 0).2 11 0 (0 : Nat) ≤ 0 by rw [qM_same]; exact Int.le_refl 0) h1)
    refine And.intro (hI.1 _ _ _ rfl) ?_
    refine And.intro h ?_
    exact Or.inl ⟨h, rfl, rfl⟩
  · refine And.intro (fun _ => ?_) (fun h1 => absurd rfl h1)
    refine And.intro (fun h1 => ?_) (fun _ => Or.inr ⟨h, rfl, rfl⟩)
    exfalso
    have h2 : (qSetI σ' 11 0 (0 : Nat) 1).2 11 0 (0 : Nat) ≤ 0 := h1
    rw [qM_same] at h2
    omega
