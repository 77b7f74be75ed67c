/-! ===== Item.labels, Item.isBroken, Item.addWord, Item.takeHead ===== -/
def v_labels (σ : qS) (n : Int) : Nat → Int
  | 0 => 0
  | j + 1 => qOr (v_labels σ n j) (if σ.2 33 n (j : Int) = 1 then 1 * 2 ^ (σ.2 34 n (j : Int)).toNat else 0)
/-- an item's words: at most 20; a label's value is small -/
def qLab (σ : qS) (n : Int) : Prop := (0 ≤ σ.2 5 n (2 : Nat) ∧ σ.2 5 n (2 : Nat) ≤ 20) ∧ ∀ j : Nat, j < (σ.2 5 n (2 : Nat)).toNat → σ.2 33 n (j : Int) = 1 → 0 ≤ σ.2 34 n (j : Int) ∧ σ.2 34 n (j : Int) ≤ 29
theorem q_pow {y : Int} (h0 : 0 ≤ y) (h1 : y ≤ 29) : (1 : Int) * 2 ^ y.toNat ≤ 2147483647 := by
  have h2 : (2 : Int) ^ y.toNat ≤ 2 ^ 29 := by
    have h3 : (2 : Nat) ^ y.toNat ≤ 2 ^ 29 := Nat.pow_le_pow_right (by decide) (by omega)
    exact_mod_cast h3
  have h4 : (2 : Int) ^ 29 = 536870912 := by decide
  omega
theorem s_labels {d : Nat} {n : Int} {σ : qS} (hI : qSet σ) (hc : qLab σ n) : qJ (d + 1) 49 [.inr (.inl (some (5, n)))] σ (fun r σ' => r = .inl (some (.inl (v_labels σ n (σ.2 5 n (2 : Nat)).toNat))) ∧ σ' = σ) := by
  obtain ⟨hc, hl⟩ := hc
  refine qJ.body (Nat.le_of_ble_eq_true rfl) (qG.walk (h := 4) (lsn := [.inr (.inl (some (5, n))), .inl (v_labels σ n 0), .inl ((0 : Nat) : Int)]) (σn := σ) ?_ 20 ⟨rfl, rfl, rfl, rfl⟩)
  refine q_down (B := (σ.2 5 n (2 : Nat)).toNat) (P := fun j => qG d (-1, fun _ => 0) (qP 49) _ 4 [.inr (.inl (some (5, n))), .inl (v_labels σ n j), .inl (j : Int)] [] σ) ?_ (fun j hj hn => ?_)
  · refine qG.end 20 (And.intro (fun h1 => ?_) (fun h1 => ⟨rfl, rfl⟩))
    exfalso; omega
  · refine qG.walk hn 40 (And.intro (fun h1 => And.intro (hI.1 _ _ _ rfl) (And.intro (show 0 ≤ (j : Int) ∧ (j : Int) < 20 from ⟨by omega, by omega⟩) (And.intro (fun h2 => ?_) (fun h2 => ?_)))) (fun h1 => ?_))
    · have e0 : v_labels σ n (j + 1) = qOr (v_labels σ n j) (1 * 2 ^ (σ.2 34 n (j : Int)).toNat) := congrArg _ (if_pos h2)
      obtain ⟨g1, g2⟩ := hl j hj h2
      refine And.intro (hI.1 _ _ _ rfl) ?_
      refine And.intro (show 0 ≤ (j : Int) ∧ (j : Int) < 20 from ⟨by omega, by omega⟩) ?_
      refine And.intro ⟨by decide, g1, by omega, q_pow g1 g2⟩ ?_
      refine And.intro (show qIn ((j : Int) + 1) from ⟨by omega, by omega⟩) ?_
      refine ⟨rfl, ?_, rfl, rfl⟩
      rw [e0]; rfl
    · have e0 : v_labels σ n (j + 1) = qOr (v_labels σ n j) 0 := congrArg _ (if_neg h2)
      refine And.intro (show qIn ((j : Int) + 1) from ⟨by omega, by omega⟩) ?_
      refine ⟨rfl, ?_, rfl, rfl⟩
      rw [e0]; rfl
    · exfalso; omega
def v_same (σ : qS) (n : Int) (j : Nat) : Prop := σ.2 36 n (j : Int) = σ.2 32 n (j : Int) + σ.2 35 n (j : Int)
theorem s_isBroken {d : Nat} {n lw : Int} {σ : qS} (hI : qSet σ) (hc : 0 ≤ σ.2 5 n (2 : Nat) ∧ σ.2 5 n (2 : Nat) ≤ 20) (hs : ∀ j : Nat, j < 20 → qIn (σ.2 32 n (j : Int) + σ.2 35 n (j : Int))) : qJ (d + 2) 50 [.inr (.inl (some (5, n))), .inl lw] σ (fun r σ' => (∃ x : Int, r = .inl (some (.inl x)) ∧ ((x = 1 ∧ σ.2 5 n (8 : Nat) = lw ∧ ∀ j : Nat, j < (σ.2 5 n (2 : Nat)).toNat → v_same σ n j) ∨ (x = 0 ∧ ¬ (σ.2 5 n (8 : Nat) = lw ∧ ∀ j : Nat, j < (σ.2 5 n (2 : Nat)).toNat → v_same σ n j)))) ∧ σ' = σ) := by
  refine qJ.body (Nat.le_of_ble_eq_true rfl) ?_
  by_cases h0 : σ.2 5 n (8 : Nat) = lw
  · refine qG.walk (h := 12) (lsn := [.inr (.inl (some (5, n))), .inl lw, .inl ((0 : Nat) : Int)]) (σn := σ) ?_ 20 (And.intro (fun _ => ⟨rfl, rfl, rfl, rfl⟩) (fun h => absurd h0 h))
    have hq := q_down (B := (σ.2 5 n (2 : Nat)).toNat) (P := fun j => (∀ i : Nat, i < j → v_same σ n i) → qG (d + 1) (-1, fun _ => 0) (qP 50) (fun r σ' => (∃ x : Int, r = .inl (some (.inl x)) ∧ ((x = 1 ∧ σ.2 5 n (8 : Nat) = lw ∧ ∀ j : Nat, j < (σ.2 5 n (2 : Nat)).toNat → v_same σ n j) ∨ (x = 0 ∧ ¬ (σ.2 5 n (8 : Nat) = lw ∧ ∀ j : Nat, j < (σ.2 5 n (2 : Nat)).toNat → v_same σ n j)))) ∧ σ' = σ) 12 [.inr (.inl (some (5, n))), .inl lw, .inl (j : Int)] [] σ) ?_ ?_
    · exact hq (fun i hi => absurd hi (Nat.not_lt_zero _))
    · intro hall
      refine qG.end 20 (And.intro (fun h1 => ?_) (fun h1 => And.intro ⟨rfl, Or.inr rfl⟩ ⟨⟨1, rfl, Or.inl ⟨rfl, h0, hall⟩⟩, rfl⟩))
      exfalso; omega
    · intro j hj hn hall
      by_cases h2 : v_same σ n j
      · refine qG.walk (hn (fun i hi => by
          by_cases e : i = j
          · rw [e]; exact h2
          · exact hall i (by omega))) 40 (And.intro (fun h1 => And.intro (hI.1 _ _ _ rfl) (And.intro (show 0 ≤ (j : Int) ∧ (j : Int) < 20 from ⟨by omega, by omega⟩) ?_)) (fun h1 => ?_))
        · refine And.intro rfl ((s_widthAt hI (show 0 ≤ (j : Int) ∧ (j : Int) < 20 from ⟨by omega, by omega⟩) (hs j (by omega))).imp fun r σ' hr => ?_)
          obtain ⟨rfl, rfl⟩ := hr
          refine And.intro (fun _ => ?_) (fun h => absurd h2 h)
          refine And.intro (show qIn ((j : Int) + 1) from ⟨by omega, by omega⟩) ?_
          exact ⟨rfl, rfl, rfl, rfl⟩
        · exfalso; omega
      · refine qG.end 40 (And.intro (fun h1 => And.intro (hI.1 _ _ _ rfl) (And.intro (show 0 ≤ (j : Int) ∧ (j : Int) < 20 from ⟨by omega, by omega⟩) ?_)) (fun h1 => ?_))
        · refine And.intro rfl ((s_widthAt hI (show 0 ≤ (j : Int) ∧ (j : Int) < 20 from ⟨by omega, by omega⟩) (hs j (by omega))).imp fun r σ' hr => ?_)
          obtain ⟨rfl, rfl⟩ := hr
          refine And.intro (fun h => absurd h h2) (fun _ => ?_)
          exact And.intro ⟨rfl, Or.inl rfl⟩ ⟨⟨0, rfl, Or.inr ⟨rfl, fun q => h2 (q.2 j hj)⟩⟩, rfl⟩
        · exfalso; omega
  · exact qG.end 20 (And.intro (fun h => absurd h h0) (fun _ => And.intro ⟨rfl, Or.inl rfl⟩ ⟨⟨0, rfl, Or.inr ⟨rfl, fun q => h0 q.1⟩⟩, rfl⟩))
/-- an item with a word more -/
def v_addWord (σ : qS) (n w k v : Int) : qS := qSetI (qSetI (qSetI (qSetI σ 32 n (σ.2 5 n (2 : Nat)) w) 33 n (σ.2 5 n (2 : Nat)) k) 34 n (σ.2 5 n (2 : Nat)) v) 5 n (2 : Nat) (σ.2 5 n (2 : Nat) + 1)
theorem s_addWord {d : Nat} {n w k v : Int} {σ : qS} (hI : qSet σ) (hc : 0 ≤ σ.2 5 n (2 : Nat)) : qJ (d + 1) 44 [.inr (.inl (some (5, n))), .inl w, .inl k, .inl v] σ (fun r σ' => r = .inl none ∧ σ' = if σ.2 5 n (2 : Nat) < 20 then v_addWord σ n w k v else σ) := by
  refine qJ.flat 40 rfl (And.intro (fun h1 => ?_) (fun h1 => And.intro rfl (And.intro rfl (if_neg h1).symm)))
  refine And.intro (hI.1 _ _ _ rfl) ?_
  refine And.intro (show 0 ≤ σ.2 5 n (2 : Nat) ∧ σ.2 5 n (2 : Nat) < 20 from ⟨hc, h1⟩) ?_
  refine And.intro (hI.1 _ _ _ rfl) ?_
  refine And.intro (show 0 ≤ σ.2 5 n (2 : Nat) ∧ σ.2 5 n (2 : Nat) < 20 from ⟨hc, h1⟩) ?_
  refine And.intro (hI.1 _ _ _ rfl) ?_
  refine And.intro (show 0 ≤ σ.2 5 n (2 : Nat) ∧ σ.2 5 n (2 : Nat) < 20 from ⟨hc, h1⟩) ?_
  refine And.intro (show qIn (σ.2 5 n (2 : Nat) + 1) from ⟨by omega, by omega⟩) ?_
  exact And.intro rfl (And.intro rfl (if_pos h1).symm)
theorem s_takeHead {d : Nat} {n need : Int} {σ : qS} : qJ (d + 1) 46 [.inr (.inl (some (5, n))), .inl need] σ (fun r σ' => r = .inl none ∧ σ' = qSetI (qSetI (qSetI σ 5 n (0 : Nat) 1) 5 n (1 : Nat) need) 5 n (10 : Nat) 1) :=
  qJ.flat 40 rfl (And.intro (Or.inr rfl) (And.intro rfl ⟨rfl, rfl⟩))
