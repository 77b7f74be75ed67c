/-! ===== words that are taken over, class and model ===== -/
theorem t45 {d : Nat} {h : qH} (hS : qSe h) {it n : Int} {M : qM} {f : qM → Prop} (hit : 0 < it) (hn : M 5 0 2 = n) (hn2 : 0 ≤ n ∧ n ≤ 20) (H : ∀ M', (∀ (k : Nat) (m s : Int), ¬ (k = 5 ∧ m = it ∧ (s = 0 ∨ s = 2 ∨ s = 8)) → ¬ (k = 35 ∧ m = it ∧ 0 ≤ s ∧ s < 20) → ¬ (32 ≤ k ∧ k ≤ 34 ∧ m = it ∧ 0 ≤ s ∧ s < n) → M' k m s = M k m s) → M' 5 it 0 = 0 → M' 5 it 2 = n → M' 5 it 8 = 0 → (∀ s, 0 ≤ s → s < 20 → M' 35 it s = 0) → (∀ w, 0 ≤ w → w < n → M' 32 it w = M 32 0 w ∧ M' 33 it w = M 33 0 w ∧ M' 34 it w = M 34 0 w) → f M') : e45 (d + 2) h it 0 M f := by
  refine w45 hS (fun M1 f1 M2 f2 M3 f3 => t267 (k := 35) (len := 20) (x := (0, 0, 0)) rfl ⟨by decide, by decide⟩ (fun M4 O4 v4 => ?_))
  have O : ∀ (k : Nat) (m s : Int), ¬ (k = 5 ∧ m = it ∧ (s = 0 ∨ s = 2 ∨ s = 8)) → ¬ (k = 35 ∧ m = it ∧ 0 ≤ s ∧ s < 20) → M4 k m s = M k m s := fun k m s q q2 => by rw [O4 k m s q2, f3, f2, f1]; unfold qU; rw [if_neg (by omega), if_neg (by omega), if_neg (by omega)]
  have a0 : M4 5 it 0 = 0 := by rw [O4 _ _ _ (by omega), f3, qU_l (by decide), f2, qU_l (by decide), f1, qU_s]
  have a2 : M4 5 it 2 = 0 := by rw [O4 _ _ _ (by omega), f3, qU_l (by decide), f2, qU_s]
  have a8 : M4 5 it 8 = 0 := by rw [O4 _ _ _ (by omega), f3, qU_s]
  refine q_upto (P := fun w => 0 ≤ w → ∀ M', (∀ (k : Nat) (m s : Int), ¬ (k = 5 ∧ m = it ∧ s = 2) → ¬ (32 ≤ k ∧ k ≤ 34 ∧ m = it ∧ 0 ≤ s ∧ s < w) → M' k m s = M4 k m s) → M' 5 it 2 = w → (∀ j, 0 ≤ j → j < w → M' 32 it j = M 32 0 j ∧ M' 33 it j = M 33 0 j ∧ M' 34 it j = M 34 0 j) → b45_25 d h f it 0 w M') (a := 0) (b := n) hn2.1 (fun _ M' F' g2 g3 => w45_25 hS ⟨fun q => ?_, fun _ => ?_⟩) (fun w w0 w1 ih _ M' F' g2 g3 => w45_25 hS ⟨fun _ => ⟨⟨w0, by omega⟩, ⟨w0, by omega⟩, ⟨w0, by omega⟩, t44 hS (c := w) g2 ⟨w0, by omega⟩ (fun M5 O5 b2 b32 b33 b34 => ⟨⟨by omega, by omega⟩, ih (by omega) M5 (fun k m s q q2 => ?_) b2 (fun j j0 j1 => ?_)⟩)⟩, fun q => ?_⟩) (Int.le_refl _) M4 (fun _ _ _ _ _ => rfl) a2 (fun j _ _ => by omega)
  · rw [F' 5 0 2 (by omega) (by omega), O _ _ _ (by omega) (by omega)] at q; omega
  · refine H M' (fun k m s q q2 q3 => ?_) ?_ g2 ?_ (fun s s0 s1 => ?_) g3
    · rw [F' k m s (by omega) q3, O k m s q q2]
    · rw [F' _ _ _ (by omega) (by omega)]; exact a0
    · rw [F' _ _ _ (by omega) (by omega)]; exact a8
    · rw [F' _ _ _ (by omega) (by omega)]; exact v4 s s0 s1
  · rw [O5 k m s q (by omega), F' k m s q (by omega)]
  · by_cases e : j = w
    · subst e
      have o : ∀ k : Nat, 32 ≤ k → k ≤ 34 → M' k 0 j = M k 0 j := fun k k0 k1 => by rw [F' _ _ _ (by omega) (by omega), O _ _ _ (by omega) (by omega)]
      rw [b32, b33, b34, o 32 (by decide) (by decide), o 33 (by decide) (by decide), o 34 (by decide) (by decide)]
      exact ⟨rfl, rfl, rfl⟩
    · rw [O5 _ _ _ (by omega) (by omega), O5 _ _ _ (by omega) (by omega), O5 _ _ _ (by omega) (by omega)]
      exact g3 j j0 (by omega)
  · rw [F' 5 0 2 (by omega) (by omega), O _ _ _ (by omega) (by omega)] at q; omega
theorem t46 {d : Nat} {h : qH} (hS : qSe h) {it nd : Int} {M : qM} {f : qM → Prop} (H : ∀ M', (∀ (k : Nat) (m s : Int), ¬ (k = 5 ∧ m = it ∧ (s = 0 ∨ s = 1 ∨ s = 10)) → M' k m s = M k m s) → M' 5 it 0 = 1 → M' 5 it 1 = nd → M' 5 it 10 = 1 → f M') : e46 (d + 1) h it nd M f :=
  w46 hS (fun M1 f1 M2 f2 M3 f3 => H M3 (fun k m s q => by rw [f3, f2, f1]; unfold qU; rw [if_neg (by omega), if_neg (by omega), if_neg (by omega)]) (by rw [f3, qU_l (by decide), f2, qU_l (by decide), f1, qU_s]) (by rw [f3, qU_l (by decide), f2, qU_s]) (by rw [f3, qU_s]))
theorem t140 {d : Nat} {h : qH} (hS : qSe h) {c i sr : Int} {M : qM} {f : Int → qM → Prop} (hi : M 1 c 1 = i) (hi2 : 0 ≤ i ∧ i < 10) (hs : M 10 0 14 = sr) (hs2 : 0 ≤ sr ∧ sr ≤ 1000) (H : ∀ M', (∀ (k : Nat) (m s : Int), ¬ (k = 1 ∧ m = c ∧ s = 1) → ¬ (k = 10 ∧ m = 0 ∧ (s = 13 ∨ s = 14)) → ¬ (k = 5 ∧ m = 1 + 10 * c + i ∧ s = 3) → M' k m s = M k m s) → M' 1 c 1 = i + 1 → M' 10 0 14 = sr + 1 → M' 5 (1 + 10 * c + i) 3 = sr + 1 → M' 10 0 13 = 0 → f (1 + 10 * c + i) M') : e140 (d + 1) h c M f := by
  refine w140 hS ?_
  rw [hi]
  refine ⟨hi2, ⟨by omega, by omega⟩, fun M1 f1 => ?_⟩
  have e1 : M1 10 0 14 = sr := by rw [f1, qU_k (by decide)]; exact hs
  rw [e1]
  refine ⟨⟨by omega, by omega⟩, fun M2 f2 M3 f3 M4 f4 => H M4 (fun k m s q q2 q3 => ?_) ?_ ?_ ?_ ?_⟩
  · rw [f4, f3, f2, f1]; unfold qU; rw [if_neg (by omega), if_neg (by omega), if_neg (by omega), if_neg (by omega)]
  · rw [f4, qU_k (by decide), f3, qU_k (by decide), f2, qU_k (by decide), f1, qU_s]
  · rw [f4, qU_l (by decide), f3, qU_k (by decide), f2, qU_s]
  · rw [f4, qU_k (by decide), f3, qU_s, f2, qU_s]
  · rw [f4, qU_s]
