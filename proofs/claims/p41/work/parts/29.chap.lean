/-! ===== loops; Chapter.wordsBut, Chapter.sumBut ===== -/
theorem q_down {P : Nat → Prop} {B : Nat} (he : P B) (hs : ∀ j, j < B → P (j + 1) → P j) : P 0 := by
  have h : ∀ t j, j + t = B → P j := by
    intro t
    induction t with
    | zero => intro j hj; rw [Nat.add_zero] at hj; rw [hj]; exact he
    | succ t ih => intro j hj; exact hs j (by omega) (ih (j + 1) (by omega))
  exact h B 0 (Nat.zero_add _)
/-- from here to the loop's head -/
theorem qG.walk {d : Nat} {sc : Int × (Int → Int)} {C : qCd} {Q : qRQ} {h : Nat} {lsn : List qV} {σn : qS} (hn : qG d sc C Q h lsn [] σn) (N : Nat) {pc : Nat} {ls st : List qV} {σ : qS} (hw : qWp (qJ d) sc C (fun pc => Nat.beq pc h) (fun pc ls st σ' => pc = h ∧ ls = lsn ∧ st = [] ∧ σ' = σn) Q N pc ls st σ) : qG d sc C Q pc ls st σ :=
  qWp_ok (fun pc ls st σ' h => by obtain ⟨rfl, rfl, rfl, rfl⟩ := h; exact hn) hw
/-- from here to the end -/
theorem qG.end {d : Nat} {sc : Int × (Int → Int)} {C : qCd} {Q : qRQ} (N : Nat) {pc : Nat} {ls st : List qV} {σ : qS} (hw : qWp (qJ d) sc C (fun _ => false) (fun _ _ _ _ => False) Q N pc ls st σ) : qG d sc C Q pc ls st σ :=
  qWp_ok (fun _ _ _ _ h => h.elim) hw
def v_wordsBut (σ : qS) (n b : Int) : Nat → Int
  | 0 => 0
  | j + 1 => v_wordsBut σ n b j + (if (j : Int) = b then 0 else σ.2 5 (1 + 10 * n + (j : Int)) (2 : Nat))
theorem s_wordsBut {d : Nat} {n b : Int} {σ : qS} (hI : qSet σ) (hc : 0 ≤ σ.2 1 n (1 : Nat) ∧ σ.2 1 n (1 : Nat) ≤ 10) (hs : ∀ j : Nat, j ≤ 10 → qIn (v_wordsBut σ n b j)) : qJ (d + 1) 6 [.inr (.inl (some (1, n))), .inl b] σ (fun r σ' => r = .inl (some (.inl (v_wordsBut σ n b (σ.2 1 n (1 : Nat)).toNat))) ∧ σ' = σ) := by
  refine qJ.body (Nat.le_of_ble_eq_true rfl) (qG.walk (h := 4) (lsn := [.inr (.inl (some (1, n))), .inl b, .inl (v_wordsBut σ n b 0), .inl ((0 : Nat) : Int)]) (σn := σ) ?_ 20 ⟨rfl, rfl, rfl, rfl⟩)
  refine q_down (B := (σ.2 1 n (1 : Nat)).toNat) (P := fun j => qG d (-1, fun _ => 0) (qP 6) _ 4 [.inr (.inl (some (1, n))), .inl b, .inl (v_wordsBut σ n b j), .inl (j : Int)] [] σ) ?_ (fun j hj hn => ?_)
  · refine qG.end 20 (And.intro (fun h1 => ?_) (fun h1 => ⟨rfl, rfl⟩))
    exfalso; omega
  · have hs1 := hs (j + 1) (by omega)
    refine qG.walk hn 40 (And.intro (fun h1 => And.intro (fun h2 => ?_) (fun h2 => ?_)) (fun h1 => ?_))
    · have e0 : v_wordsBut σ n b (j + 1) = v_wordsBut σ n b j + 0 := congrArg _ (if_pos h2)
      refine And.intro (by rw [← e0]; exact hs1) ?_
      refine And.intro (show qIn ((j : Int) + 1) from ⟨by omega, by omega⟩) ?_
      refine ⟨rfl, ?_, rfl, rfl⟩
      rw [e0]; rfl
    · have e0 : v_wordsBut σ n b (j + 1) = v_wordsBut σ n b j + σ.2 5 (1 + 10 * n + (j : Int)) (2 : Nat) := congrArg _ (if_neg h2)
      refine And.intro (hI.1 _ _ _ rfl) ?_
      refine And.intro ⟨by omega, by omega, hI.2 _ _ _ rfl (by omega) (show (j : Int) < 10 by omega)⟩ ?_
      refine And.intro (by rw [← e0]; exact hs1) ?_
      refine And.intro (show qIn ((j : Int) + 1) from ⟨by omega, by omega⟩) ?_
      refine ⟨rfl, ?_, rfl, rfl⟩
      rw [e0]; rfl
    · exfalso; omega
def v_sumBut (σ : qS) (n c b : Int) : Nat → Int
  | 0 => 0
  | j + 1 => v_sumBut σ n c b j + (if (j : Int) = b then 0 else v_sumOf σ (1 + 10 * n + (j : Int)) c (σ.2 5 (1 + 10 * n + (j : Int)) (2 : Nat)).toNat)
/-- the items of a chapter have at most 20 words each -/
def qItems (σ : qS) (n : Int) : Prop := ∀ j : Nat, j < 10 → 0 ≤ σ.2 5 (1 + 10 * n + (j : Int)) (2 : Nat) ∧ σ.2 5 (1 + 10 * n + (j : Int)) (2 : Nat) ≤ 20
theorem s_sumBut {d : Nat} {n c b : Int} {σ : qS} (hI : qSet σ) (hc : 0 ≤ σ.2 1 n (1 : Nat) ∧ σ.2 1 n (1 : Nat) ≤ 10) (hit : qItems σ n) (hs : ∀ j : Nat, j ≤ 10 → qIn (v_sumBut σ n c b j)) (hs2 : ∀ j : Nat, j < 10 → ∀ t : Nat, t ≤ 20 → qIn (v_sumOf σ (1 + 10 * n + (j : Int)) c t)) : qJ (d + 2) 7 [.inr (.inl (some (1, n))), .inl c, .inl b] σ (fun r σ' => r = .inl (some (.inl (v_sumBut σ n c b (σ.2 1 n (1 : Nat)).toNat))) ∧ σ' = σ) := by
  refine qJ.body (Nat.le_of_ble_eq_true rfl) (qG.walk (h := 5) (lsn := [.inr (.inl (some (1, n))), .inl c, .inl b, .inl (v_sumBut σ n c b 0), .inl ((0 : Nat) : Int)]) (σn := σ) ?_ 20 ⟨rfl, rfl, rfl, rfl⟩)
  refine q_down (B := (σ.2 1 n (1 : Nat)).toNat) (P := fun j => qG (d + 1) (-1, fun _ => 0) (qP 7) _ 5 [.inr (.inl (some (1, n))), .inl c, .inl b, .inl (v_sumBut σ n c b j), .inl (j : Int)] [] σ) ?_ (fun j hj hn => ?_)
  · refine qG.end 20 (And.intro (fun h1 => ?_) (fun h1 => ⟨rfl, rfl⟩))
    exfalso; omega
  · have hs1 := hs (j + 1) (by omega)
    refine qG.walk hn 40 (And.intro (fun h1 => And.intro (fun h2 => ?_) (fun h2 => ?_)) (fun h1 => ?_))
    · have e0 : v_sumBut σ n c b (j + 1) = v_sumBut σ n c b j + 0 := congrArg _ (if_pos h2)
      refine And.intro (by rw [← e0]; exact hs1) ?_
      refine And.intro (show qIn ((j : Int) + 1) from ⟨by omega, by omega⟩) ?_
      refine ⟨rfl, ?_, rfl, rfl⟩
      rw [e0]; rfl
    · have e0 : v_sumBut σ n c b (j + 1) = v_sumBut σ n c b j + v_sumOf σ (1 + 10 * n + (j : Int)) c (σ.2 5 (1 + 10 * n + (j : Int)) (2 : Nat)).toNat := congrArg _ (if_neg h2)
      refine And.intro (hI.1 _ _ _ rfl) ?_
      refine And.intro ⟨by omega, by omega, hI.2 _ _ _ rfl (by omega) (show (j : Int) < 10 by omega)⟩ ?_
      refine And.intro rfl ((s_sumOf hI (hit j (by omega)) (hs2 j (by omega))).imp fun r σ' hr => ?_)
      obtain ⟨rfl, rfl⟩ := hr
      refine And.intro (by rw [← e0]; exact hs1) ?_
      refine And.intro (show qIn ((j : Int) + 1) from ⟨by omega, by omega⟩) ?_
      refine ⟨rfl, ?_, rfl, rfl⟩
      rw [e0]; rfl
    · exfalso; omega
