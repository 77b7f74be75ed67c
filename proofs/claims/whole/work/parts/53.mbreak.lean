/-! ===== FacingleafModel.wide, costOfLine, breaks ===== -/
theorem t175 {d : Nat} {h : qH} (hS : qSe h) {k : Int} {M : qM} {f : Int → qM → Prop} (hk : 0 ≤ k ∧ k < 600) (hb : qIn (M 69 0 k + M 76 0 k)) (H : f (M 69 0 k + M 76 0 k) M) : e175 (d + 1) h k M f :=
  w175 hS ⟨hk, hk, hb, H⟩
theorem t177 {d : Nat} {h : qH} (hS : qSe h) {n len l : Int} {M : qM} {f : Int → qM → Prop} (hl : -1000 ≤ M 11 0 1 - len ∧ M 11 0 1 - len ≤ 1000) (H : f (if len ≤ M 11 0 1 then (if l = 0 then (M 11 0 1 - len) * (M 11 0 1 - len) else 0) else if n ≤ 1 then 100 * (len - M 11 0 1) else 536870912) M) : e177 (d + 1) h n len l M f := by
  have := q_sq hl.1 hl.2
  refine w177 hS ?_
  grind
def fr178 (j : Int) (M M' : qM) : Prop := ∀ (k : Nat) (n s : Int), ¬ ((k = 84 ∨ k = 85 ∨ k = 86) ∧ n = 0 ∧ s = j) → M' k n s = M k n s
theorem t178_46 {d : Nat} {h : qH} (hS : qSe h) {n it j W : Int} {M : qM} {f : qM → Prop} {u6 u7 : qV} (hit : 0 ≤ it ∧ it < 30) (hW : M 11 0 1 = W) (hj : 0 ≤ j ∧ j < n ∧ n ≤ 20) (hW2 : 8 ≤ W ∧ W ≤ 30)
    (hw : ∀ i, 0 ≤ M 69 0 i + M 76 0 i ∧ M 69 0 i + M 76 0 i ≤ 16)
    (hC : ∀ i, j < i → i ≤ n → 0 ≤ M 84 0 i ∧ M 84 0 i ≤ 1000 * (n - i) ∧ 0 ≤ M 85 0 i ∧ M 85 0 i ≤ n - i)
    (hI : M 84 0 j = 536870912)
    (H : ∀ M' u4 u5 u6 u7, fr178 j M M' → p_best (fun i => M 69 0 (20 * it + i) + M 76 0 (20 * it + i)) (M 84 0) (M 85 0) n W j (n + 1) (M' 84 0 j) (M' 85 0 j) (M' 86 0 j) → b178_25 d h f it n (j + (-1)) (.inl u4) (.inl u5) u6 u7 M') : b178_46 d h f it n j (-1) (j + 1) u6 u7 M := by
  generalize hwe : (fun i => M 69 0 (20 * it + i) + M 76 0 (20 * it + i)) = w at H
  have hwi : ∀ i, w i = M 69 0 (20 * it + i) + M 76 0 (20 * it + i) := fun i => by rw [← hwe]
  have hmono : ∀ a b : Int, 0 ≤ a → a ≤ b → p_ws w a ≤ p_ws w b ∧ p_ws w b ≤ p_ws w a + 17 * (b - a) := by
    intro a b ha hab
    refine q_upto (P := fun x => p_ws w x ≤ p_ws w b ∧ p_ws w b ≤ p_ws w x + 17 * (b - x)) hab ⟨by omega, by omega⟩ (fun x h1 h2 h3 => ?_)
    have := p_ws_s (w := w) (x := x) (by omega)
    have := hw (20 * it + x)
    rw [← hwi] at this
    omega
  have main : ∀ (u6 u7 : qV) (M1 : qM), fr178 j M M1 → ((j + 1 = j + 1 ∧ M1 84 0 j = 536870912) ∨ (j + 1 < j + 1 ∧ p_best w (M 84 0) (M 85 0) n W j (j + 1) (M1 84 0 j) (M1 85 0 j) (M1 86 0 j))) → b178_46 d h f it n j (p_ws w (j + 1 - 1) - p_ws w j - 1) (j + 1) u6 u7 M1 := by
    refine q_upto (P := fun to => ∀ (u6 u7 : qV) (M1 : qM), fr178 j M M1 → ((to = j + 1 ∧ M1 84 0 j = 536870912) ∨ (j + 1 < to ∧ p_best w (M 84 0) (M 85 0) n W j to (M1 84 0 j) (M1 85 0 j) (M1 86 0 j))) → b178_46 d h f it n j (p_ws w (to - 1) - p_ws w j - 1) to u6 u7 M1) (a := j + 1) (b := n + 1) (by omega) ?_ ?_
    · intro u6 u7 M1 hf hi
      refine w178_46 hS ⟨fun h1 => by omega, fun h1 => ⟨⟨by omega, by omega⟩, ?_⟩⟩
      rcases hi with ⟨h2, h3⟩ | ⟨h2, h3⟩
      · exfalso; omega
      · exact H M1 _ _ _ _ hf h3
    · intro to h1 h2 ih u6 u7 M1 hf hi
      have g1 : M1 69 0 (20 * it + to - 1) + M1 76 0 (20 * it + to - 1) = w (to - 1) := by rw [hwi, hf 69 _ _ (by omega), hf 76 _ _ (by omega), show 20 * it + (to - 1) = 20 * it + to - 1 by omega]
      have g2 := hw (20 * it + (to - 1))
      rw [← hwi] at g2
      have g3 := p_ws_s (w := w) (x := to - 1) (by omega)
      rw [show to - 1 + 1 = to by omega] at g3
      rw [show to + 1 - 1 = to by omega] at ih
      have g4 := hmono j to (by omega) (by omega)
      have g5 : p_len w j to = p_ws w to - p_ws w j - 1 := rfl
      have gW : M1 11 0 1 = W := by rw [hf _ _ _ (by omega)]; exact hW
      refine w178_46 hS ⟨fun h3 => ⟨⟨by omega, by omega⟩, ⟨by omega, by omega⟩, ⟨by omega, by omega⟩, t175 hS ⟨by omega, by omega⟩ (by rw [g1]; exact ⟨by omega, by omega⟩) ?_⟩, fun h3 => by omega⟩
      rw [g1]
      refine ⟨⟨by omega, by omega⟩, ⟨by omega, by omega⟩, ⟨by omega, by omega⟩, fun x hx => t177 hS (by rw [gW]; exact ⟨by omega, by omega⟩) ?_⟩
      rw [gW, show p_ws w (to - 1) - p_ws w j - 1 + (w (to - 1) + 1) = p_len w j to by omega]
      have g6 : M1 84 0 to = M 84 0 to ∧ M1 85 0 to = M 85 0 to := ⟨hf _ _ _ (by omega), hf _ _ _ (by omega)⟩
      have g7 := hC to (by omega) (by omega)
      have g9 : 0 ≤ p_lc w n W j to ∧ p_lc w n W j to ≤ 1000000 := by
        have := q_sq (x := W - p_len w j to) (by omega) (by omega)
        unfold p_lc
        split
        · split <;> omega
        · omega
      generalize hv : (if p_len w j to ≤ W then (if x = 0 then (W - p_len w j to) * (W - p_len w j to) else 0) else if to - j ≤ 1 then 100 * (p_len w j to - W) else 536870912) = v
      have hv1 : p_feas w W j to → v = p_lc w n W j to := by
        intro hfe
        rw [← hv]
        unfold p_lc
        unfold p_feas at hfe
        split
        · split <;> split <;> grind
        · rw [if_pos (by omega)]
      have hv2 : ¬ p_feas w W j to → v = 536870912 := by
        intro hfe
        unfold p_feas at hfe
        rw [← hv, if_neg (by omega), if_neg (by omega)]
      have hv3 : 0 ≤ v ∧ v ≤ 536870912 := by
        by_cases hfe : p_feas w W j to
        · have := hv1 hfe; omega
        · have := hv2 hfe; omega
      have hc0 : 0 ≤ M1 84 0 j ∧ M1 84 0 j ≤ 536870912 ∧ (to = j + 1 → M1 84 0 j = 536870912) ∧ (j + 1 < to → M1 84 0 j ≤ 100000) := by
        rcases hi with ⟨k1, k2⟩ | ⟨k1, k2⟩
        · omega
        · have := p_best_bd (n := n) (fun i => by rw [hwi]; exact hw _) hW2 ⟨hj.1, by omega⟩ (c := M1 84 0 j) (l := M1 85 0 j) (e := M1 86 0 j) (w := w) (C := M 84 0) (L := M 85 0)
          have hz := k2.2.2.2.2 (j + 1) (by omega) k1 (Or.inl rfl)
          have hz2 := hC (j + 1) (by omega) (by omega)
          have hz4 : p_lc w n W j (j + 1) ≤ 3000 := by
            have a1 := p_ws_s (w := w) hj.1
            have a2 : p_len w j (j + 1) = w j := by unfold p_len; omega
            have a3 := hw (20 * it + j)
            rw [← hwi] at a3
            unfold p_lc
            rw [a2]
            split
            · split
              · omega
              · have k2 : 0 ≤ (30 - (W - w j)) * (30 + (W - w j)) := Int.mul_nonneg (by omega) (by omega)
                have k3 : (30 - (W - w j)) * (30 + (W - w j)) = 900 - (W - w j) * (W - w j) := by rw [Int.sub_mul, Int.mul_add, Int.mul_add, Int.mul_comm (W - w j) 30]; omega
                omega
            · omega
          have hz5 : 0 ≤ p_lc w n W j (M1 86 0 j) := by
            unfold p_lc
            have : 0 ≤ (W - p_len w j (M1 86 0 j)) * (W - p_len w j (M1 86 0 j)) := by rcases Int.le_total 0 (W - p_len w j (M1 86 0 j)) with h | h; exact Int.mul_nonneg h h; exact Int.mul_nonneg_of_nonpos_of_nonpos h h
            split
            · split <;> omega
            · omega
          have hz6 := k2.1
          have hz7 := hC (M1 86 0 j) (by omega) (by omega)
          have hz8 := k2.2.2.1
          omega
      refine ⟨⟨by omega, by omega⟩, ⟨by omega, by omega⟩, ⟨by omega, by omega⟩, fun _ => ⟨⟨by omega, by omega⟩, fun _ _ => ⟨⟨by omega, by omega⟩, ⟨by omega, by omega⟩, by omega⟩⟩, ?_⟩
      rw [g6.1, g6.2]
      intro b hb
      have hb2 : (b = 1 ∧ (v + M 84 0 to < M1 84 0 j ∨ (v + M 84 0 to = M1 84 0 j ∧ v + M 84 0 to < 536870912 ∧ M 85 0 to + 1 ≤ M1 85 0 j))) ∨ (b = 0 ∧ ¬ (v + M 84 0 to < M1 84 0 j ∨ (v + M 84 0 to = M1 84 0 j ∧ v + M 84 0 to < 536870912 ∧ M 85 0 to + 1 ≤ M1 85 0 j))) := by grind
      refine ⟨⟨fun _ => by omega, fun _ => ⟨by omega, by omega, by omega⟩⟩, fun x1 hx1 => ⟨by omega, fun M2 e2 => ⟨fun _ => by omega, fun x2 hx2 => ⟨by omega, fun M3 e3 => ⟨fun _ => by omega, fun x3 hx3 => ⟨by omega, fun M4 e4 => ⟨⟨by omega, by omega⟩, ?_⟩⟩⟩⟩⟩⟩⟩
      have y1 : M4 84 0 j = x3 := by rw [e4, qU_s]
      have y2 : M4 85 0 j = x1 := by rw [e4, qU_k (by decide), e3, qU_k (by decide), e2, qU_s]
      have y3 : M4 86 0 j = x2 := by rw [e4, qU_k (by decide), e3, qU_s]
      have z2 : M2 86 0 j = M1 86 0 j := by rw [e2, qU_k (by decide)]
      have z3 : M3 84 0 j = M1 84 0 j := by rw [e3, qU_k (by decide), e2, qU_k (by decide)]
      rw [z2] at hx2
      rw [z3] at hx3
      refine ih _ _ M4 (fun k m s q => ?_) (Or.inr ⟨by omega, ?_⟩)
      · rw [← hf k m s q, e4, e3, e2]
        unfold qU
        grind
      · rw [y1, y2, y3]
        rcases hb2 with ⟨b1, b2⟩ | ⟨b1, b2⟩
        · rw [b1, if_neg (by decide)] at hx1 hx2 hx3
          rw [hx1, hx2, hx3]
          have hfe : p_feas w W j to := by
            refine Classical.byContradiction fun q => ?_
            have := hv2 q
            omega
          rw [hv1 hfe] at b2 ⊢
          refine ⟨⟨by omega, by omega⟩, hfe, rfl, rfl, fun t t1 t2 t3 => ?_⟩
          by_cases ht : t = to
          · subst ht; exact Or.inr ⟨rfl, Or.inr ⟨rfl, by omega⟩⟩
          · rcases hi with ⟨k1, k2⟩ | ⟨k1, k2⟩
            · omega
            · have := k2.2.2.2.2 t t1 (by omega) t3
              omega
        · rw [b1, if_pos rfl] at hx1 hx2 hx3
          rw [hx1, hx2, hx3]
          rcases hi with ⟨k1, k2⟩ | ⟨k1, k2⟩
          · exfalso
            have hfe : p_feas w W j to := Or.inl k1
            have := hv1 hfe
            omega
          · refine ⟨⟨k2.1.1, by have := k2.1.2; omega⟩, k2.2.1, k2.2.2.1, k2.2.2.2.1, fun t t1 t2 t3 => ?_⟩
            by_cases ht : t = to
            · subst ht
              have := hv1 t3
              have := hc0.2.2.2 k1
              omega
            · exact k2.2.2.2.2 t t1 (by omega) t3
  have hm := main u6 u7 M (fun _ _ _ _ => rfl) (Or.inl ⟨rfl, hI⟩)
  rw [show p_ws w (j + 1 - 1) - p_ws w j - 1 = -1 by rw [show j + 1 - 1 = j by omega]; omega] at hm
  exact hm
