/-! ===== FacingleafModel.composes: the widths that are copied ===== -/
theorem t215_21 {d : Nat} {h : qH} (hS : qSe h) {x1 n : Int} {u3 : qV} {M : qM} {f : Int → qM → Prop} (h20 : M 11 0 20 = n) (hn : 0 ≤ n ∧ n < 12)
    (H : ∀ M', (∀ (k : Nat) (m s : Int), ¬ (k = 78 ∧ m = 0 ∧ 600 * n ≤ s ∧ s < 600 * n + 600) → M' k m s = M k m s) → (∀ x, 0 ≤ x → x < 600 → M' 78 0 (600 * n + x) = M 76 0 x) → b215_21 d h f x1 600 u3 M') : b215_21 d h f x1 0 u3 M := by
  refine q_upto (P := fun x => 0 ≤ x → ∀ M1, (∀ (k : Nat) (m s : Int), ¬ (k = 78 ∧ m = 0 ∧ 600 * n ≤ s ∧ s < 600 * n + 600) → M1 k m s = M k m s) → (∀ y, 0 ≤ y → y < x → M1 78 0 (600 * n + y) = M 76 0 y) → b215_21 d h f x1 x u3 M1) (a := 0) (b := 600) (by omega) (fun _ M1 O1 v1 => H M1 O1 v1) (fun x x0 x600 ih _ M1 O1 v1 => ?_) (by omega) M (fun _ _ _ _ => rfl) (fun y a b => by omega)
  have e20 : M1 11 0 20 = n := by rw [O1 _ _ _ (by omega)]; exact h20
  have e76 : M1 76 0 x = M 76 0 x := O1 _ _ _ (by omega)
  refine w215_21 hS ⟨fun _ => ?_, fun q => by omega⟩
  rw [e20, e76]
  refine ⟨⟨by omega, by omega⟩, ⟨by omega, by omega⟩, ⟨x0, x600⟩, ⟨by omega, by omega⟩, fun M2 f2 => ⟨⟨by omega, by omega⟩, ih (by omega) M2 (fun k m s q => by rw [f2]; unfold qU; rw [if_neg (by omega)]; exact O1 k m s q) (fun y y0 y1 => ?_)⟩⟩
  by_cases q : y = x
  · rw [q, f2, qU_s]
  · rw [f2, qU_l (by omega)]; exact v1 y y0 (by omega)
theorem t215_147 {d : Nat} {h : qH} (hS : qSe h) {x1 : Int} {u2 : qV} {M : qM} {f : Int → qM → Prop}
    (H : ∀ M' u3, fr211 76 M M' → (∀ x, 0 ≤ x → x < 600 → M' 76 0 x = M 77 0 x) → b215_21 d h f x1 0 u3 M') : b215_147 d h f x1 u2 0 M := by
  refine q_upto (P := fun x => 0 ≤ x → ∀ M1, fr211 76 M M1 → (∀ y, 0 ≤ y → y < x → M1 76 0 y = M 77 0 y) → b215_147 d h f x1 u2 x M1) (a := 0) (b := 600) (by omega) (fun _ M1 O1 v1 => w215_147 hS ⟨fun q => by omega, fun _ => w215_19 hS (H M1 _ O1 v1)⟩) (fun x x0 x600 ih _ M1 O1 v1 => ?_) (by omega) M (fun _ _ _ _ => rfl) (fun y a b => by omega)
  have e77 : M1 77 0 x = M 77 0 x := O1 _ _ _ (by omega)
  refine w215_147 hS ⟨fun _ => ⟨⟨x0, x600⟩, ⟨x0, x600⟩, fun M2 f2 => ⟨⟨by omega, by omega⟩, ih (by omega) M2 (fun k m s q => by rw [f2]; unfold qU; rw [if_neg (by omega)]; exact O1 k m s q) (fun y y0 y1 => ?_)⟩⟩, fun q => by omega⟩
  by_cases q : y = x
  · rw [q, f2, qU_s]; exact e77
  · rw [f2, qU_l (by omega)]; exact v1 y y0 (by omega)
/-- the pages of the contents: as many as are wanted, and one more behind an odd one -/
theorem t204_24 {d : Nat} {h : qH} (hS : qSe h) {x1 n : Int} {u4 u5 : qV} {M : qM} {f : Int → qM → Prop} (hn : 0 ≤ n ∧ n ≤ 100) (h58 : M 11 0 58 = 0)
    (H : ∀ M', (∀ (k : Nat) (m s : Int), ¬ (m = 0 ∧ ((k = 11 ∧ s = 58) ∨ (105 ≤ k ∧ k ≤ 113 ∧ 1 ≤ s ∧ s ≤ n + n % 2))) → M' k m s = M k m s) → M' 11 0 58 = n + n % 2 → (∀ p, 1 ≤ p → p ≤ n + n % 2 → M' 105 0 p = 3) → b204_49 d h f x1 (.inl n) 1 0 u5 M') : b204_24 d h f x1 n 0 u4 u5 M := by
  refine q_upto (P := fun x => 0 ≤ x → ∀ M1, (∀ (k : Nat) (m s : Int), ¬ (m = 0 ∧ ((k = 11 ∧ s = 58) ∨ (105 ≤ k ∧ k ≤ 113 ∧ 1 ≤ s ∧ s ≤ n + n % 2))) → M1 k m s = M k m s) → M1 11 0 58 = x → (∀ p, 1 ≤ p → p ≤ x → M1 105 0 p = 3) → b204_24 d h f x1 n x u4 u5 M1) (a := 0) (b := n + n % 2) (by omega) (fun _ M1 O1 a1 v1 => w204_24 hS ⟨hn.1, ⟨by omega, by omega⟩, fun q => by omega, fun _ => H M1 O1 a1 v1⟩) (fun x x0 xb ih _ M1 O1 a1 v1 => ?_) (by omega) M (fun _ _ _ _ => rfl) h58 (fun p a b => by omega)
  refine w204_24 hS ⟨hn.1, ⟨by omega, by omega⟩, fun _ => t196 hS (p := x + 1) (by omega) ⟨by omega, by omega⟩ (fun M2 O2 b1 b2 => ⟨⟨by omega, by omega⟩, ih (by omega) M2 (fun k m s q => by rw [O2 k m s (by omega)]; exact O1 k m s q) b1 (fun p p0 p1 => ?_)⟩), fun q => by omega⟩
  by_cases q : p = x + 1
  · rw [q]; exact b2
  · rw [O2 _ _ _ (by omega)]; exact v1 p p0 (by omega)
