/-! ===== Rows.addWord ===== -/
/-- an item in the memory of the class -/
def p_rep (A : pA) (M : qM) (it i : Int) : Prop := M 5 it 0 = A 0 i 0 ∧ M 5 it 1 = A 1 i 0 ∧ M 5 it 10 = A 2 i 0 ∧ M 5 it 2 = A 6 i 0 ∧ (∀ s, 0 ≤ s → s < A 2 i 0 → A 0 i 0 = 0 → M 37 it s = A 3 i s) ∧ ∀ w, 0 ≤ w → w < 20 → M 33 it w = A 4 i w ∧ M 34 it w = A 5 i w
/-- words up to one are counted -/
def p_wI (A : pA) (n i w : Int) (M : qM) : Prop := M 9 n 12 = p_FB A i w ∧ M 9 n 16 = p_NB A i w ∧ M 9 n 17 = p_LS A i w ∧ M 61 n 0 = 0 ∧ (∀ x, 0 ≤ x → x ≤ p_FB A i w → 0 ≤ M 61 n x ∧ M 61 n x ≤ 9 * x) ∧ ∀ i' w', 0 ≤ i' → 0 ≤ w' → w' < A 6 i' 0 → (i' < i ∨ (i' = i ∧ w' < w)) → (A 4 i' w' = 3 → M 59 n (p_FB A i' w') = (i' * 20 + w') * 4 ∧ M 61 n (p_FB A i' w' + 1) = M 61 n (p_FB A i' w') + A 5 i' w') ∧ (A 4 i' w' = 2 → ∀ k, 0 ≤ k → k < A 5 i' w' → M 60 n (p_NB A i' w' + k) = (i' * 20 + w') * 4 + k)
def fr90 (n : Int) (M M' : qM) : Prop := ∀ (k : Nat) (m s : Int), ¬ ((k = 9 ∧ m = n ∧ (s = 12 ∨ s = 16 ∨ s = 17)) ∨ ((k = 59 ∨ k = 60 ∨ k = 61) ∧ m = n)) → M' k m s = M k m s
theorem t90 {d : Nat} {h : qH} (hS : qSe h) {A : pA} {cnt n it i w : Int} {M : qM} {f : qM → Prop} (hA : p_okA A cnt) (hi : 0 ≤ i ∧ i < cnt) (hw : 0 ≤ w ∧ w < A 6 i 0) (hr : p_rep A M it i) (hI : p_wI A n i w M)
    (H : ∀ M', fr90 n M M' → p_wI A n i (w + 1) M' → f M') : e90 (d + 1) h n it i w M f := by
  have hc := hA.1
  have h6 := p_okA_6 hA hi
  obtain ⟨i1, i2, i3, i4, i5, i6⟩ := hI
  obtain ⟨rk, rv⟩ := hr.2.2.2.2.2 w hw.1 (by omega)
  have hv := (hA.2.1 i hi.1 hi.2).1 w
  have z1 := p_FB_s (A := A) (i := i) hw.1
  have z2 := p_NB_s (A := A) (i := i) hw.1
  have z3 := p_LS_s (A := A) (i := i) hw.1
  have z4 := p_FB_end hA hi (w := w) ⟨hw.1, by omega⟩
  have z5 := p_FB_end hA hi (w := w + 1) ⟨by omega, by omega⟩
  have mono : ∀ i' w', 0 ≤ i' → 0 ≤ w' → w' < A 6 i' 0 → (i' < i ∨ (i' = i ∧ w' < w)) → p_FB A i' w' + (if A 4 i' w' = 3 then 1 else 0) ≤ p_FB A i w ∧ p_NB A i' w' + (if A 4 i' w' = 2 then A 5 i' w' else 0) ≤ p_NB A i w := fun i' w' a b c e => p_FB_mono hA ⟨a, by omega⟩ ⟨b, c⟩ ⟨hw.1, Or.inl hi.2⟩ e
  have note : A 4 i w ≠ 3 → ∀ (u2 u6 : qV), b90_83 d h f n it u2 w (M 34 it w) ((i * 20 + w) * 4) u6 M := by
    intro k3 u2 u6
    rw [if_neg k3] at z1
    refine w90_83 hS ⟨⟨by omega, by omega⟩, fun k2 => ⟨⟨by omega, by omega⟩, fun M1 e1 => ?_⟩, fun k2 => ?_⟩
    · rw [rk] at k2
      rw [if_pos k2] at z2 z3
      rw [rv]
      have loop : ∀ (M2 : qM), (∀ (k : Nat) (m s : Int), ¬ ((k = 9 ∧ m = n ∧ (s = 16 ∨ s = 17)) ∨ (k = 60 ∧ m = n ∧ p_NB A i w ≤ s)) → M2 k m s = M k m s) → M2 9 n 17 = p_NB A i w + 1 → M2 9 n 16 = p_NB A i w + 0 → (∀ k, 0 ≤ k → k < 0 → M2 60 n (p_NB A i w + k) = (i * 20 + w) * 4 + k) → b90_106 d h f n (.inr (.inl (some (5, it)))) u2 (.inl w) (A 5 i w) ((i * 20 + w) * 4) 0 M2 := by
        refine q_upto (P := fun j => ∀ (M2 : qM), (∀ (k : Nat) (m s : Int), ¬ ((k = 9 ∧ m = n ∧ (s = 16 ∨ s = 17)) ∨ (k = 60 ∧ m = n ∧ p_NB A i w ≤ s)) → M2 k m s = M k m s) → M2 9 n 17 = p_NB A i w + 1 → M2 9 n 16 = p_NB A i w + j → (∀ k, 0 ≤ k → k < j → M2 60 n (p_NB A i w + k) = (i * 20 + w) * 4 + k) → b90_106 d h f n (.inr (.inl (some (5, it)))) u2 (.inl w) (A 5 i w) ((i * 20 + w) * 4) j M2) (a := 0) (b := A 5 i w) hv.1 ?_ ?_
        · intro M2 f2 c17 c16 cp
          refine w90_106 hS ⟨fun q => absurd q (Int.lt_irrefl _), fun _ => H M2 (fun k m s q => f2 k m s (by omega)) ⟨by rw [f2 _ _ _ (by omega), i1, z1]; omega, by rw [c16, z2], by rw [c17, z3], by rw [f2 _ _ _ (by omega), i4], fun x x0 x1 => by rw [f2 _ _ _ (by omega)]; exact i5 x x0 (by omega), fun i' w' a b c e => ?_⟩⟩
          by_cases hlast : i' = i ∧ w' = w
          · obtain ⟨rfl, rfl⟩ := hlast
            exact ⟨fun q => absurd q k3, fun _ k a b => cp k a b⟩
          · have e' : i' < i ∨ (i' = i ∧ w' < w) := by omega
            have g := i6 i' w' a b c e'
            have m1 := mono i' w' a b c e'
            refine ⟨fun q => ?_, fun q k k0 k1 => ?_⟩
            · rw [f2 _ _ _ (by omega), f2 _ _ _ (by omega), f2 _ _ _ (by omega)]; exact g.1 q
            · rw [if_pos q] at m1
              rw [f2 _ _ _ (by omega)]
              exact g.2 q k k0 k1
        · intro j j0 j1 ih M2 f2 c17 c16 cp
          refine w90_106 hS ⟨fun _ => ⟨fun _ => ⟨⟨by omega, by omega⟩, ⟨by omega, by omega⟩, fun M3 e3 => ?_⟩, fun q => by omega⟩, fun q => absurd j1 q⟩
          have g1 : M3 9 n 16 = M2 9 n 16 := by rw [e3, qU_k (by decide)]
          refine ⟨⟨by omega, by omega⟩, fun M4 e4 => ⟨⟨by omega, by omega⟩, ih M4 ?_ ?_ ?_ ?_⟩⟩
          · intro k m s q
            rw [← f2 k m s q, e4, e3]
            unfold qU
            rw [if_neg (by omega), if_neg (by omega)]
          · rw [e4, qU_l (by decide), e3, qU_k (by decide)]; exact c17
          · rw [e4, qU_s, g1, c16]; omega
          · intro k k0 k1
            rw [e4, qU_k (by decide), e3]
            by_cases hk : k = j
            · rw [hk, c16, qU_s]
            · rw [qU_l (by omega)]; exact cp k k0 (by omega)
      exact loop M1 (fun k m s q => by rw [e1]; unfold qU; rw [if_neg (by omega)]) (by rw [e1, qU_s]; omega) (by rw [e1, qU_l (by decide)]; omega) (fun k a b => by omega)
    · rw [rk] at k2
      rw [if_neg k2] at z2 z3
      refine H M (fun _ _ _ _ => rfl) ⟨by omega, by omega, by omega, i4, fun x x0 x1 => i5 x x0 (by omega), fun i' w' a b c e => ?_⟩
      by_cases hlast : i' = i ∧ w' = w
      · obtain ⟨rfl, rfl⟩ := hlast
        exact ⟨fun q => absurd q k3, fun q => absurd q k2⟩
      · exact i6 i' w' a b c (by omega)
  refine w90 hS ⟨⟨by omega, by omega⟩, ⟨by omega, by omega⟩, ⟨by omega, by omega⟩, ⟨by omega, by omega⟩, ⟨by omega, by omega⟩, fun k3 => ⟨fun _ => ⟨⟨by omega, by omega⟩, fun M1 e1 => ?_⟩, fun q => ?_⟩, fun k3 => note (by rw [← rk]; exact k3) _ _⟩
  · rw [rk] at k3
    rw [if_pos k3] at z1
    rw [if_neg (by omega)] at z2 z3
    have g1 : M1 9 n 12 = p_FB A i w := by rw [e1, qU_k (by decide), i1]
    have g2 := i5 (p_FB A i w) z4.1.1 (Int.le_refl _)
    have g3 : ∀ x, M1 61 n x = M 61 n x := fun x => by rw [e1, qU_k (by decide)]
    rw [g1, g3, rv]
    refine ⟨⟨by omega, by omega⟩, ⟨by omega, by omega⟩, ⟨by omega, by omega⟩, ⟨by omega, by omega⟩, fun M2 e2 => ?_⟩
    have g4 : M2 9 n 12 = p_FB A i w := by rw [e2, qU_k (by decide), g1]
    rw [g4]
    refine ⟨⟨by omega, by omega⟩, fun M3 e3 => ?_⟩
    rw [i1] at e1
    have h61 : ∀ x, M3 61 n x = if x = p_FB A i w + 1 then M 61 n (p_FB A i w) + A 5 i w else M 61 n x := by
      intro x
      rw [e3, qU_k (by decide), e2]
      by_cases hx : x = p_FB A i w + 1
      · rw [if_pos hx, hx, qU_s]
      · rw [if_neg hx, qU_l hx, g3]
    have h59 : ∀ x, M3 59 n x = if x = p_FB A i w then (i * 20 + w) * 4 else M 59 n x := by
      intro x
      rw [e3, qU_k (by decide), e2, qU_k (by decide), e1]
      by_cases hx : x = p_FB A i w
      · rw [if_pos hx, hx, qU_s]
      · rw [if_neg hx, qU_l hx]
    refine H M3 (fun k m s q => ?_) ⟨by rw [e3, qU_s]; omega, ?_, ?_, by rw [h61, if_neg (by omega), i4], fun x x0 x1 => ?_, fun i' w' a b c e => ?_⟩
    · rw [e3, e2, e1]
      unfold qU
      rw [if_neg (by omega), if_neg (by omega), if_neg (by omega)]
    · rw [e3, qU_l (by decide), e2, qU_k (by decide), e1, qU_k (by decide), i2]; omega
    · rw [e3, qU_l (by decide), e2, qU_k (by decide), e1, qU_k (by decide), i3]; omega
    · rw [h61]
      by_cases hx : x = p_FB A i w + 1
      · rw [if_pos hx]; omega
      · rw [if_neg hx]; exact i5 x x0 (by omega)
    · by_cases hlast : i' = i ∧ w' = w
      · obtain ⟨rfl, rfl⟩ := hlast
        refine ⟨fun _ => ?_, fun q => by omega⟩
        rw [h59, if_pos rfl, h61, if_pos rfl, h61, if_neg (by omega)]
        exact ⟨rfl, rfl⟩
      · have e' : i' < i ∨ (i' = i ∧ w' < w) := by omega
        have g := i6 i' w' a b c e'
        have m1 := mono i' w' a b c e'
        refine ⟨fun q => ?_, fun q k k0 k1 => ?_⟩
        · rw [if_pos q] at m1
          rw [h59, if_neg (by omega), h61, if_neg (by omega), h61, if_neg (by omega)]
          exact g.1 q
        · rw [e3, qU_k (by decide), e2, qU_k (by decide), e1, qU_k (by decide)]
          exact g.2 q k k0 k1
  · exfalso
    rw [rk] at k3
    rw [if_pos k3] at z1
    omega
