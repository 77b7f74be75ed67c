/-! ===== Item.takeWords, Chapter.labelsBut, Chapter.heads ===== -/
theorem qM_same {σ : qS} {k : Nat} {n s x : Int} : (qSetI σ k n s x).2 k n s = x := if_pos ⟨rfl, rfl, rfl⟩
theorem qM_k {σ : qS} {k k2 : Nat} {n s x n2 s2 : Int} (h : k2 ≠ k) : (qSetI σ k n s x).2 k2 n2 s2 = σ.2 k2 n2 s2 := if_neg (fun q => h q.1)
theorem qM_n {σ : qS} {k k2 : Nat} {n s x n2 s2 : Int} (h : n2 ≠ n) : (qSetI σ k n s x).2 k2 n2 s2 = σ.2 k2 n2 s2 := if_neg (fun q => h q.2.1)
theorem qM_s {σ : qS} {k k2 : Nat} {n s x n2 s2 : Int} (h : s2 ≠ s) : (qSetI σ k n s x).2 k2 n2 s2 = σ.2 k2 n2 s2 := if_neg (fun q => h q.2.2)
theorem qSet.of {σ σ' : qS} (h : σ'.1 = σ.1) (hI : qSet σ) : qSet σ' := by
  unfold qSet
  rw [h]
  exact hI
theorem v_addWord_h {σ : qS} {n w k v : Int} : (v_addWord σ n w k v).1 = σ.1 := rfl
theorem v_addWord_c {σ : qS} {n w k v : Int} : (v_addWord σ n w k v).2 5 n (2 : Nat) = σ.2 5 n (2 : Nat) + 1 := qM_same
theorem v_addWord_o {σ : qS} {n w k v : Int} {k2 : Nat} {n2 s2 : Int} (h : n2 ≠ n) : (v_addWord σ n w k v).2 k2 n2 s2 = σ.2 k2 n2 s2 := by
  unfold v_addWord
  rw [qM_n h, qM_n h, qM_n h, qM_n h]
/-- an item takes the first j words of another -/
def v_take (σ : qS) (n m : Int) : Nat → qS
  | 0 => qFill (qSetI (qSetI (qSetI σ 5 n (0 : Nat) 0) 5 n (2 : Nat) 0) 5 n (8 : Nat) 0) 35 n 0 20
  | j + 1 => v_addWord (v_take σ n m j) n (σ.2 32 m (j : Int)) (σ.2 33 m (j : Int)) (σ.2 34 m (j : Int))
theorem v_take_h {σ : qS} {n m : Int} : ∀ j : Nat, (v_take σ n m j).1 = σ.1
  | 0 => by
    unfold v_take
    rw [qFill_h]
    rfl
  | j + 1 => v_take_h j
theorem v_take_c {σ : qS} {n m : Int} : ∀ j : Nat, (v_take σ n m j).2 5 n (2 : Nat) = (j : Int)
  | 0 => by
    unfold v_take
    rw [qFill_M, if_neg (fun q => absurd q.1 (by decide)), qM_s (by decide), qM_same]
    rfl
  | j + 1 => by
    have h : (v_take σ n m (j + 1)).2 5 n (2 : Nat) = (v_take σ n m j).2 5 n (2 : Nat) + 1 := v_addWord_c
    rw [h, v_take_c j]
    omega
theorem v_take_o {σ : qS} {n m : Int} {k2 : Nat} {n2 s2 : Int} (h : n2 ≠ n) : ∀ j : Nat, (v_take σ n m j).2 k2 n2 s2 = σ.2 k2 n2 s2
  | 0 => by
    unfold v_take
    rw [qFill_M, if_neg (fun q => h q.2.1), qM_n h, qM_n h, qM_n h]
  | j + 1 => by
    have e : (v_take σ n m (j + 1)).2 k2 n2 s2 = (v_take σ n m j).2 k2 n2 s2 := v_addWord_o h
    rw [e, v_take_o h j]
theorem s_takeWords {d : Nat} {n m : Int} {σ : qS} (hI : qSet σ) (hnm : m ≠ n) (hc : 0 ≤ σ.2 5 m (2 : Nat) ∧ σ.2 5 m (2 : Nat) ≤ 20) : qJ (d + 2) 45 [.inr (.inl (some (5, n))), .inr (.inl (some (5, m)))] σ (fun r σ' => r = .inl none ∧ σ' = v_take σ n m (σ.2 5 m (2 : Nat)).toNat) := by
  refine qJ.body (Nat.le_of_ble_eq_true rfl) (qG.walk (h := 25) (lsn := [.inr (.inl (some (5, n))), .inr (.inl (some (5, m))), .inl ((0 : Nat) : Int)]) (σn := v_take σ n m 0) ?_ 40 ?_)
  · refine q_down (B := (σ.2 5 m (2 : Nat)).toNat) (P := fun j => qG (d + 1) (-1, fun _ => 0) (qP 45) _ 25 [.inr (.inl (some (5, n))), .inr (.inl (some (5, m))), .inl (j : Int)] [] (v_take σ n m j)) ?_ (fun j hj hn => ?_)
    · refine qG.end 20 (And.intro (fun h1 => ?_) (fun h1 => And.intro rfl ⟨rfl, rfl⟩))
      exfalso
      rw [v_take_o hnm] at h1
      omega
    · have hI' : qSet (v_take σ n m j) := hI.of (v_take_h j)
      refine qG.walk hn 40 (And.intro (fun h1 => ?_) (fun h1 => ?_))
      · refine And.intro (hI'.1 _ _ _ rfl) ?_
        refine And.intro (show 0 ≤ (j : Int) ∧ (j : Int) < 20 from ⟨by omega, by omega⟩) ?_
        refine And.intro (hI'.1 _ _ _ rfl) ?_
        refine And.intro (show 0 ≤ (j : Int) ∧ (j : Int) < 20 from ⟨by omega, by omega⟩) ?_
        refine And.intro (hI'.1 _ _ _ rfl) ?_
        refine And.intro (show 0 ≤ (j : Int) ∧ (j : Int) < 20 from ⟨by omega, by omega⟩) ?_
        refine And.intro rfl ((s_addWord hI' (by rw [v_take_c]; omega)).imp fun r σ' hr => ?_)
        obtain ⟨rfl, hσ⟩ := hr
        rw [v_take_c, if_pos (by omega)] at hσ
        refine And.intro (show qIn ((j : Int) + 1) from ⟨by omega, by omega⟩) ?_
        refine ⟨rfl, rfl, rfl, ?_⟩
        rw [hσ, v_take_o hnm, v_take_o hnm, v_take_o hnm]
        rfl
      · exfalso
        rw [v_take_o hnm] at h1
        omega
  · refine And.intro (Or.inl rfl) ?_
    refine And.intro (hI.1 _ _ _ rfl) ?_
    refine And.intro rfl ((s_fill (len := 20) rfl ⟨by decide, by decide⟩).imp fun r σ' hr => ?_)
    obtain ⟨rfl, rfl⟩ := hr
    exact ⟨rfl, rfl, rfl, rfl⟩
def v_labelsBut (σ : qS) (n b : Int) : Nat → Int
  | 0 => 0
  | j + 1 => qOr (v_labelsBut σ n b j) (if (j : Int) = b then 0 else v_labels σ (1 + 10 * n + (j : Int)) (σ.2 5 (1 + 10 * n + (j : Int)) (2 : Nat)).toNat)
theorem s_labelsBut {d : Nat} {n b : Int} {σ : qS} (hI : qSet σ) (hc : 0 ≤ σ.2 1 n (1 : Nat) ∧ σ.2 1 n (1 : Nat) ≤ 10) (hl : ∀ j : Nat, j < (σ.2 1 n (1 : Nat)).toNat → qLab σ (1 + 10 * n + (j : Int))) : qJ (d + 2) 8 [.inr (.inl (some (1, n))), .inl b] σ (fun r σ' => r = .inl (some (.inl (v_labelsBut σ n b (σ.2 1 n (1 : Nat)).toNat))) ∧ σ' = σ) := by
  refine qJ.body (Nat.le_of_ble_eq_true rfl) (qG.walk (h := 4) (lsn := [.inr (.inl (some (1, n))), .inl b, .inl (v_labelsBut σ n b 0), .inl ((0 : Nat) : Int)]) (σn := σ) ?_ 20 ⟨rfl, rfl, rfl, rfl⟩)
  refine q_down (B := (σ.2 1 n (1 : Nat)).toNat) (P := fun j => qG (d + 1) (-1, fun _ => 0) (qP 8) _ 4 [.inr (.inl (some (1, n))), .inl b, .inl (v_labelsBut σ n b j), .inl (j : Int)] [] σ) ?_ (fun j hj hn => ?_)
  · refine qG.end 20 (And.intro (fun h1 => ?_) (fun h1 => ⟨rfl, rfl⟩))
    exfalso; omega
  · refine qG.walk hn 40 (And.intro (fun h1 => And.intro (fun h2 => ?_) (fun h2 => ?_)) (fun h1 => ?_))
    · have e0 : v_labelsBut σ n b (j + 1) = qOr (v_labelsBut σ n b j) 0 := congrArg _ (if_pos h2)
      refine And.intro (show qIn ((j : Int) + 1) from ⟨by omega, by omega⟩) ?_
      refine ⟨rfl, ?_, rfl, rfl⟩
      rw [e0]; rfl
    · have e0 : v_labelsBut σ n b (j + 1) = qOr (v_labelsBut σ n b j) (v_labels σ (1 + 10 * n + (j : Int)) (σ.2 5 (1 + 10 * n + (j : Int)) (2 : Nat)).toNat) := congrArg _ (if_neg h2)
      refine And.intro (hI.1 _ _ _ rfl) ?_
      refine And.intro ⟨by omega, by omega, hI.2 _ _ _ rfl (by omega) (show (j : Int) < 10 by omega)⟩ ?_
      refine And.intro rfl ((s_labels hI (hl j hj)).imp fun r σ' hr => ?_)
      obtain ⟨rfl, rfl⟩ := hr
      refine And.intro (show qIn ((j : Int) + 1) from ⟨by omega, by omega⟩) ?_
      refine ⟨rfl, ?_, rfl, rfl⟩
      rw [e0]; rfl
    · exfalso; omega
def v_heads (σ : qS) (n : Int) : Nat → Int
  | 0 => 0
  | j + 1 => v_heads σ n j + (if σ.2 5 (1 + 10 * n + (j : Int)) (0 : Nat) = 0 then 0 else 1)
theorem v_heads_in {σ : qS} {n : Int} : ∀ j : Nat, 0 ≤ v_heads σ n j ∧ v_heads σ n j ≤ j
  | 0 => ⟨Int.le_refl _, Int.le_refl _⟩
  | j + 1 => by
    have h := v_heads_in (σ := σ) (n := n) j
    have e : v_heads σ n (j + 1) = v_heads σ n j + (if σ.2 5 (1 + 10 * n + (j : Int)) (0 : Nat) = 0 then 0 else 1) := rfl
    rw [e]
    split <;> omega
theorem s_heads {d : Nat} {n : Int} {σ : qS} (hI : qSet σ) (hc : 0 ≤ σ.2 1 n (1 : Nat) ∧ σ.2 1 n (1 : Nat) ≤ 10) : qJ (d + 1) 9 [.inr (.inl (some (1, n)))] σ (fun r σ' => r = .inl (some (.inl (v_heads σ n (σ.2 1 n (1 : Nat)).toNat))) ∧ σ' = σ) := by
  refine qJ.body (Nat.le_of_ble_eq_true rfl) (qG.walk (h := 4) (lsn := [.inr (.inl (some (1, n))), .inl (v_heads σ n 0), .inl ((0 : Nat) : Int)]) (σn := σ) ?_ 20 ⟨rfl, rfl, rfl, rfl⟩)
  refine q_down (B := (σ.2 1 n (1 : Nat)).toNat) (P := fun j => qG d (-1, fun _ => 0) (qP 9) _ 4 [.inr (.inl (some (1, n))), .inl (v_heads σ n j), .inl (j : Int)] [] σ) ?_ (fun j hj hn => ?_)
  · refine qG.end 20 (And.intro (fun h1 => ?_) (fun h1 => ⟨rfl, rfl⟩))
    exfalso; omega
  · have hb := v_heads_in (σ := σ) (n := n) j
    refine qG.walk hn 40 (And.intro (fun h1 => And.intro (hI.1 _ _ _ rfl) (And.intro ⟨by omega, by omega, hI.2 _ _ _ rfl (by omega) (show (j : Int) < 10 by omega)⟩ (And.intro (fun h2 => ?_) (fun h2 => ?_)))) (fun h1 => ?_))
    · have e0 : v_heads σ n (j + 1) = v_heads σ n j + 0 := congrArg _ (if_pos h2)
      refine And.intro (show qIn (v_heads σ n j + 0) from ⟨by omega, by omega⟩) ?_
      refine And.intro (show qIn ((j : Int) + 1) from ⟨by omega, by omega⟩) ?_
      refine ⟨rfl, ?_, rfl, rfl⟩
      rw [e0]; rfl
    · have e0 : v_heads σ n (j + 1) = v_heads σ n j + 1 := congrArg _ (if_neg h2)
      refine And.intro (show qIn (v_heads σ n j + 1) from ⟨by omega, by omega⟩) ?_
      refine And.intro (show qIn ((j : Int) + 1) from ⟨by omega, by omega⟩) ?_
      refine ⟨rfl, ?_, rfl, rfl⟩
      rw [e0]; rfl
    · exfalso; omega
