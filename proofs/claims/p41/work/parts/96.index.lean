/-! ===== Index.add: a page of a term ===== -/
theorem t39 {d : Nat} {h : qH} (hS : qSe h) {l p C : Int} {M : qM} {F : qM → Prop} (hl : 0 ≤ l ∧ l < 10) (hC : M 27 0 l = C) (hC2 : 0 ≤ C ∧ C < 180) (hb : 0 < C → 0 ≤ M 31 l (C - 1) ∧ M 31 l (C - 1) ≤ 1000)
    (H1 : 0 < C → p ≤ M 31 l (C - 1) + 1 → ∀ M', (∀ (k : Nat) (m s : Int), ¬ (k = 31 ∧ m = l ∧ s = C - 1) → M' k m s = M k m s) → M' 31 l (C - 1) = p → F M')
    (H0 : (0 < C → ¬ p ≤ M 31 l (C - 1) + 1) → ∀ M', (∀ (k : Nat) (m s : Int), ¬ (((k = 29 ∨ k = 31) ∧ m = l ∧ s = C) ∨ (k = 27 ∧ m = 0 ∧ s = l)) → M' k m s = M k m s) → M' 29 l C = p → M' 31 l C = p → M' 27 0 l = C + 1 → F M') : e39 (d + 1) h l p M F := by
  have app : ∀ u, (0 < C → ¬ p ≤ M 31 l (C - 1) + 1) → b39_39 d h F l p u M := fun u hno => by
    refine w39_39 hS ⟨hl, fun _ => ⟨hl, hl, ?_⟩, fun q => by omega⟩
    rw [hC]
    refine ⟨hC2, fun M1 f1 => ⟨hl, hl, ?_⟩⟩
    have c1 : M1 27 0 l = C := by rw [f1, qU_k (by decide)]; exact hC
    rw [c1]
    refine ⟨hC2, fun M2 f2 => ⟨hl, ?_⟩⟩
    have c2 : M2 27 0 l = C := by rw [f2, qU_k (by decide)]; exact c1
    rw [c2]
    refine ⟨⟨by omega, by omega⟩, hl, fun M3 f3 => H0 hno M3 (fun k m s q => ?_) ?_ ?_ ?_⟩
    · rw [f3, f2, f1]; unfold qU; rw [if_neg (by omega), if_neg (by omega), if_neg (by omega)]
    · rw [f3, qU_k (by decide), f2, qU_k (by decide), f1, qU_s]
    · rw [f3, qU_k (by decide), f2, qU_s]
    · rw [f3, qU_s]
  refine w39 hS ⟨hl, ?_⟩
  rw [hC]
  refine ⟨⟨by omega, by omega⟩, fun q => app _ (fun z => by omega), fun q => ⟨hl, ⟨by omega, by omega⟩, ?_⟩⟩
  have b := hb (by omega)
  exact ⟨⟨by omega, by omega⟩, fun q1 => ⟨hl, ⟨by omega, by omega⟩, fun M1 f1 => H1 (by omega) q1 M1 (fun k m s z => by rw [f1]; unfold qU; rw [if_neg z]) (by rw [f1, qU_s])⟩, fun q1 => app _ (fun _ => q1)⟩
theorem t41 {d : Nat} {h : qH} (hS : qSe h) {x D : Int} {M : qM} {F : Int → qM → Prop} (hD : M 4 0 5 = D) (hD2 : 0 ≤ D ∧ D ≤ 14) (hx : 0 ≤ x ∧ x ≤ 100000) (H : F (if D ≤ 0 then 0 else x / (2 * D)) M) : e41 (d + 1) h x M F := by
  refine w41 hS ?_
  rw [hD]
  exact ⟨fun q => ⟨⟨by omega, by omega⟩, hx.1, by omega⟩, fun y hy => by rw [hy]; exact H⟩
