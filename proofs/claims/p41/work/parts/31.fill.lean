/-! ===== Arrays.fill, Math.max, Math.min; Item.takeWords ===== -/
/-- the first j places of an int[] are v -/
def qFill (σ : qS) (k : Nat) (n v : Int) : Nat → qS
  | 0 => σ
  | j + 1 => qSetI (qFill σ k n v j) k n (j : Int) v
theorem qFill_h {σ : qS} {k : Nat} {n v : Int} : ∀ j : Nat, (qFill σ k n v j).1 = σ.1
  | 0 => rfl
  | j + 1 => qFill_h j
theorem qFill_M {σ : qS} {k : Nat} {n v : Int} {k2 : Nat} {n2 s : Int} : ∀ j : Nat, (qFill σ k n v j).2 k2 n2 s = if k2 = k ∧ n2 = n ∧ 0 ≤ s ∧ s < j then v else σ.2 k2 n2 s
  | 0 => by rw [if_neg (by omega)]; rfl
  | j + 1 => by
    have e : (qFill σ k n v (j + 1)).2 k2 n2 s = if k2 = k ∧ n2 = n ∧ s = (j : Int) then v else (qFill σ k n v j).2 k2 n2 s := rfl
    rw [e, qFill_M j]
    by_cases h : k2 = k ∧ n2 = n
    · obtain ⟨rfl, rfl⟩ := h
      by_cases h2 : s = (j : Int)
      · rw [if_pos ⟨rfl, rfl, h2⟩, if_pos ⟨rfl, rfl, by omega, by omega⟩]
      · rw [if_neg (fun q => h2 q.2.2)]
        by_cases h3 : 0 ≤ s ∧ s < (j : Int)
        · rw [if_pos ⟨rfl, rfl, h3⟩, if_pos ⟨rfl, rfl, h3.1, by omega⟩]
        · rw [if_neg (fun q => h3 q.2.2), if_neg (fun q => h3 ⟨q.2.2.1, by have := q.2.2.2; omega⟩)]
    · rw [if_neg (fun q => h ⟨q.1, q.2.1⟩), if_neg (fun q => h ⟨q.1, q.2.1⟩), if_neg (fun q => h ⟨q.1, q.2.1⟩)]
theorem s_fill {d k : Nat} {n v len : Int} {x : Nat × Int × Int} {σ : qS} (hk : qKd qT0 k = (1, len, x)) (hlen : 0 ≤ len ∧ len ≤ 30000) : qJ (d + 1) 267 [.inr (.inl (some (k, n))), .inl v] σ (fun r σ' => r = .inl none ∧ σ' = qFill σ k n v len.toNat) := by
  refine qJ.body (Nat.le_of_ble_eq_true rfl) (qG.walk (h := 5) (lsn := [.inr (.inl (some (k, n))), .inl v, .inl ((0 : Nat) : Int), .inl len]) (σn := σ) ?_ 20 (qWlen_of hk ⟨rfl, rfl, rfl, rfl⟩))
  refine q_down (B := len.toNat) (P := fun j => qG d (-1, fun _ => 0) (qP 267) _ 5 [.inr (.inl (some (k, n))), .inl v, .inl (j : Int), .inl len] [] (qFill σ k n v j)) ?_ (fun j hj hn => ?_)
  · refine qG.end 20 (And.intro (fun h1 => ?_) (fun h1 => And.intro rfl ⟨rfl, rfl⟩))
    exfalso; omega
  · refine qG.walk hn 40 (And.intro (fun h1 => ?_) (fun h1 => ?_))
    · refine qWlen_of hk ?_
      refine And.intro (show 0 ≤ (j : Int) ∧ (j : Int) < len from ⟨by omega, by omega⟩) ?_
      refine And.intro (show qIn ((j : Int) + 1) from ⟨by omega, by omega⟩) ?_
      exact ⟨rfl, rfl, rfl, rfl⟩
    · exfalso; omega
theorem s_max {d : Nat} {x y : Int} {σ : qS} : qJ (d + 1) 264 [.inl x, .inl y] σ (fun r σ' => r = .inl (some (.inl (if x < y then y else x))) ∧ σ' = σ) :=
  qJ.flat 20 rfl (And.intro (fun h => And.intro (by rw [if_pos h]) rfl) (fun h => And.intro (by rw [if_neg h]) rfl))
theorem s_min {d : Nat} {x y : Int} {σ : qS} : qJ (d + 1) 265 [.inl x, .inl y] σ (fun r σ' => r = .inl (some (.inl (if x ≤ y then x else y))) ∧ σ' = σ) :=
  qJ.flat 20 rfl (And.intro (fun h => And.intro (by rw [if_pos h]) rfl) (fun h => And.intro (by rw [if_neg h]) rfl))
