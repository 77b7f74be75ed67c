/-! ===== what methods do: Breaker.costOfLine, Item.widthAt, Item.sumOf ===== -/
/-- every reference that never changes is set -/
def qRl (k s : Nat) : Bool := Nat.beq (qKd qT0 k).1 0 && Nat.beq (qFd qT0 (qKd qT0 k).2.1.toNat s).1 2
def qSet (σ : qS) : Prop := (∀ (k : Nat) (n : Int) (s : Nat), qRl k s = true → σ.1.2.1 k n s = true) ∧ ∀ (k : Nat) (n s : Int), Nat.beq (qKd qT0 k).1 4 = true → 0 ≤ s → s < (qKd qT0 k).2.1 → σ.1.2.1 k n s = true
/-- a method's meaning, from its code to the cut points -/
theorem qJ.by {d m : Nat} {as : List qV} {σ : qS} {Q : qRQ} (cut : Nat → Bool) (K : qK) (N : Nat) (hl : Nat.ble (qFl as).length (qP m).2.2.2 = true) (hK : ∀ pc ls st σ, K pc ls st σ → qG d (-1, fun _ => 0) (qP m) Q pc ls st σ) (h : qWp (qJ d) (-1, fun _ => 0) (qP m) cut K Q N 0 (qArgs (qP m).2.2.2 as) [] σ) : qJ (d + 1) m as σ Q :=
  qJ.body (Nat.le_of_ble_eq_true hl) (qWp_ok hK h)
/-- a method without loops -/
theorem qJ.flat {d m : Nat} {as : List qV} {σ : qS} {Q : qRQ} (N : Nat) (hl : Nat.ble (qFl as).length (qP m).2.2.2 = true) (h : qWp (qJ d) (-1, fun _ => 0) (qP m) (fun _ => false) (fun _ _ _ _ => False) Q N 0 (qArgs (qP m).2.2.2 as) [] σ) : qJ (d + 1) m as σ Q :=
  qJ.by _ _ N hl (fun _ _ _ _ h => h.elim) h
theorem s_costOfLine {d : Nat} {lack last : Int} {σ : qS} (h : -1000 ≤ lack ∧ lack ≤ 1000) (hm : lack * lack ≤ 1000000) (hm0 : 0 ≤ lack * lack) : qJ (d + 1) 3 [.inl lack, .inl last] σ (fun r σ' => r = .inl (some (.inl (if lack < 0 then -100 * lack else if last = 0 then lack * lack else 0))) ∧ σ' = σ) := by
  refine qJ.flat 20 rfl ?_
  refine And.intro (fun h1 => ?_) (fun h1 => ?_)
  · refine And.intro (show qIn (-100 * lack) from ⟨by omega, by omega⟩) ?_
    refine And.intro ?_ rfl
    rw [if_pos h1]
  · refine And.intro (fun h2 => ?_) (fun h2 => ?_)
    · refine And.intro (show qIn (lack * lack) from ⟨by omega, by omega⟩) ?_
      refine And.intro ?_ rfl
      rw [if_neg h1, if_pos h2]
    · refine And.intro ?_ rfl
      rw [if_neg h1, if_neg h2]
theorem s_widthAt {d : Nat} {n i : Int} {σ : qS} (hI : qSet σ) (hi : 0 ≤ i ∧ i < 20) (hs : qIn (σ.2 32 n i + σ.2 35 n i)) : qJ (d + 1) 47 [.inr (.inl (some (5, n))), .inl i] σ (fun r σ' => r = .inl (some (.inl (σ.2 32 n i + σ.2 35 n i))) ∧ σ' = σ) := by
  refine qJ.flat 20 rfl ?_
  refine And.intro (hI.1 _ _ _ rfl) ?_
  refine And.intro hi ?_
  refine And.intro (hI.1 _ _ _ rfl) ?_
  refine And.intro hi ?_
  refine And.intro hs ?_
  exact And.intro rfl rfl
/-- Item.sumOf: of the first j words -/
def v_sumOf (σ : qS) (n c : Int) : Nat → Int
  | 0 => 0
  | j + 1 => if σ.2 33 n j = c then v_sumOf σ n c j + (if c = 2 then σ.2 34 n j else 1) else v_sumOf σ n c j
theorem s_sumOf {d : Nat} {n c : Int} {σ : qS} (hI : qSet σ) (hc : 0 ≤ σ.2 5 n (2 : Nat) ∧ σ.2 5 n (2 : Nat) ≤ 20) (hs : ∀ j : Nat, j ≤ 20 → qIn (v_sumOf σ n c j)) : qJ (d + 1) 48 [.inr (.inl (some (5, n))), .inl c] σ (fun r σ' => r = .inl (some (.inl (v_sumOf σ n c (σ.2 5 n (2 : Nat)).toNat))) ∧ σ' = σ) := by
  have loop : ∀ (t j : Nat), j + t = (σ.2 5 n (2 : Nat)).toNat → qG d (-1, fun _ => 0) (qP 48) (fun r σ' => r = .inl (some (.inl (v_sumOf σ n c (σ.2 5 n (2 : Nat)).toNat))) ∧ σ' = σ) 4 [.inr (.inl (some (5, n))), .inl c, .inl (v_sumOf σ n c j), .inl (j : Int)] [] σ := by
    intro t
    induction t with
    | zero =>
      intro j hj
      refine qWp_ok (cut := fun _ => false) (K := fun _ _ _ _ => False) (fun _ _ _ _ h => h.elim) (N := 20) ?_
      refine And.intro (fun h1 => ?_) (fun h1 => ?_)
      · exfalso; omega
      · refine And.intro ?_ rfl
        rw [← hj]; rfl
    | succ t ih =>
      intro j hj
      have hnx := ih (j + 1) (by omega)
      have hs1 := hs (j + 1) (by omega)
      refine qWp_ok (cut := fun pc => Nat.beq pc 4) (K := fun pc ls st σ' => pc = 4 ∧ ls = [.inr (.inl (some (5, n))), .inl c, .inl (v_sumOf σ n c (j + 1)), .inl ((j + 1 : Nat) : Int)] ∧ st = [] ∧ σ' = σ) (fun pc ls st σ' h => by obtain ⟨rfl, rfl, rfl, rfl⟩ := h; exact hnx) (N := 40) ?_
      refine And.intro (fun h1 => ?_) (fun h1 => ?_)
      · refine And.intro (hI.1 _ _ _ rfl) ?_
        refine And.intro (show 0 ≤ (j : Int) ∧ (j : Int) < 20 from ⟨by omega, by omega⟩) ?_
        have e1 : (j : Int) + 1 = ((j + 1 : Nat) : Int) := by omega
        refine And.intro (fun h2 => ?_) (fun h2 => ?_)
        · have e0 : v_sumOf σ n c (j + 1) = v_sumOf σ n c j + (if c = 2 then σ.2 34 n j else 1) := if_pos h2
          refine And.intro (fun h3 => ?_) (fun h3 => ?_)
          · rw [if_pos h3] at e0
            refine And.intro (hI.1 _ _ _ rfl) ?_
            refine And.intro (show 0 ≤ (j : Int) ∧ (j : Int) < 20 from ⟨by omega, by omega⟩) ?_
            refine And.intro (by rw [← e0]; exact hs1) ?_
            refine And.intro (show qIn ((j : Int) + 1) from ⟨by omega, by omega⟩) ?_
            refine And.intro rfl (And.intro ?_ (And.intro rfl rfl))
            rw [e0]; rfl
          · rw [if_neg h3] at e0
            refine And.intro (by rw [← e0]; exact hs1) ?_
            refine And.intro (show qIn ((j : Int) + 1) from ⟨by omega, by omega⟩) ?_
            refine And.intro rfl (And.intro ?_ (And.intro rfl rfl))
            rw [e0]; rfl
        · have e0 : v_sumOf σ n c (j + 1) = v_sumOf σ n c j := if_neg h2
          refine And.intro (show qIn ((j : Int) + 1) from ⟨by omega, by omega⟩) ?_
          refine And.intro rfl (And.intro ?_ (And.intro rfl rfl))
          rw [e0]; rfl
      · exfalso; omega
  refine qJ.by (fun pc => Nat.beq pc 4) (fun pc ls st σ' => pc = 4 ∧ ls = [.inr (.inl (some (5, n))), .inl c, .inl (v_sumOf σ n c 0), .inl ((0 : Nat) : Int)] ∧ st = [] ∧ σ' = σ) 20 rfl (fun pc ls st σ' h => by obtain ⟨rfl, rfl, rfl, rfl⟩ := h; exact loop _ 0 (Nat.zero_add _)) ?_
  exact And.intro rfl (And.intro rfl (And.intro rfl rfl))
