/-! ===== FacingleafModel.isBrokenSo, breaks ===== -/
def p_mkept (M : qM) (it : Int) : Prop := M 79 0 it = M 11 0 1 ∧ ∀ j, 0 ≤ j → j < M 67 0 it → M 80 0 (20 * it + j) = M 69 0 (20 * it + j) + M 76 0 (20 * it + j)
theorem t176 {d : Nat} {h : qH} (hS : qSe h) {it : Int} {M : qM} {f : Int → qM → Prop} (hit : 0 ≤ it ∧ it < 30) (hn : 0 ≤ M 67 0 it ∧ M 67 0 it ≤ 20)
    (hw : ∀ i, 0 ≤ M 69 0 i + M 76 0 i ∧ M 69 0 i + M 76 0 i ≤ 16)
    (H1 : p_mkept M it → f 1 M) (H0 : ¬ p_mkept M it → f 0 M) : e176 (d + 2) h it M f := by
  refine w176 hS ⟨hit, fun x hx => ?_⟩
  refine q_upto (P := fun j => ∀ x, (x = 1 ∧ (M 79 0 it = M 11 0 1 ∧ ∀ i, 0 ≤ i → i < j → M 80 0 (20 * it + i) = M 69 0 (20 * it + i) + M 76 0 (20 * it + i))) ∨ (x = 0 ∧ ¬ p_mkept M it) → b176_21 d h f it x j M) (a := 0) (b := M 67 0 it) hn.1 ?_ ?_ x ?_
  · intro x hx
    refine w176_21 hS ⟨hit, fun h1 => by omega, fun _ => ⟨by omega, ?_⟩⟩
    rcases hx with ⟨rfl, h1, h2⟩ | ⟨rfl, h1⟩
    · exact H1 ⟨h1, h2⟩
    · exact H0 h1
  · intro j h1 h2 ih x hx
    have := hw (20 * it + j)
    refine w176_21 hS ⟨hit, fun h3 => ⟨fun h4 => ⟨⟨by omega, by omega⟩, ih 0 (Or.inr ⟨rfl, ?_⟩)⟩, fun h4 => ⟨⟨by omega, by omega⟩, ⟨by omega, by omega⟩, by omega, ⟨by omega, by omega⟩, ⟨by omega, by omega⟩, t175 hS (by omega) ⟨by omega, by omega⟩ (fun y hy => ⟨⟨by omega, by omega⟩, ih y ?_⟩)⟩⟩, fun h3 => by omega⟩
    · rcases hx with ⟨hx, _⟩ | ⟨hx, h⟩
      · omega
      · exact h
    · rcases hx with ⟨hx, k1, k2⟩ | ⟨hx, _⟩
      · by_cases hq : M 80 0 (20 * it + j) = M 69 0 (20 * it + j) + M 76 0 (20 * it + j)
        · rw [if_pos hq] at hy
          refine Or.inl ⟨hy, k1, fun i i0 i1 => ?_⟩
          by_cases hij : i = j
          · rw [hij]; exact hq
          · exact k2 i i0 (by omega)
        · rw [if_neg hq] at hy
          exact Or.inr ⟨hy, fun q => hq (q.2 j h1 h2)⟩
      · omega
  · by_cases hq : M 79 0 it = M 11 0 1
    · rw [if_pos hq] at hx
      exact Or.inl ⟨hx, hq, fun i _ _ => by omega⟩
    · rw [if_neg hq] at hx
      exact Or.inr ⟨hx, fun q => hq q.1⟩
/-- what breaking an item anew leaves as it was, in the model -/
def frB (it n : Int) (M M' : qM) : Prop := ∀ (k : Nat) (m s : Int), ¬ (((k = 84 ∨ k = 85 ∨ k = 86) ∧ m = 0) ∨ ((k = 79 ∨ k = 81 ∨ k = 83) ∧ m = 0 ∧ s = it) ∨ ((k = 82 ∨ k = 80) ∧ m = 0 ∧ 20 * it ≤ s ∧ s < 20 * it + n) ∨ (k = 11 ∧ m = 0 ∧ s = 23)) → M' k m s = M k m s
theorem t178 {d : Nat} {h : qH} (hS : qSe h) {it n W : Int} {M : qM} {f : qM → Prop} (hit : 0 ≤ it ∧ it < 30) (hne : M 67 0 it = n) (hn : 0 ≤ n ∧ n ≤ 20) (hW1 : M 11 0 1 = W) (hW : 8 ≤ W ∧ W ≤ 30)
    (hw : ∀ i, 0 ≤ M 69 0 i + M 76 0 i ∧ M 69 0 i + M 76 0 i ≤ 16) (hbr : 0 ≤ M 11 0 23 ∧ M 11 0 23 ≤ 1000000)
    (H : ∀ M', frB it n M M' → M' 79 0 it = W → M' 11 0 23 = M 11 0 23 + 1 → (∀ j, 0 ≤ j → j < n → M' 80 0 (20 * it + j) = M 69 0 (20 * it + j) + M 76 0 (20 * it + j)) → p_lined (fun i => M 69 0 (20 * it + i) + M 76 0 (20 * it + i)) n W (M' 81 0 it) (M' 83 0 it) (fun s => M' 82 0 (20 * it + s)) → f M') : e178 (d + 2) h it M f := by
  refine w178 hS ?_
  rw [hne]
  refine ⟨hit, ⟨by omega, by omega⟩, fun M1 e1 => ⟨⟨by omega, by omega⟩, fun M2 e2 => ⟨⟨by omega, by omega⟩, ?_⟩⟩⟩
  generalize hwe : (fun i => M 69 0 (20 * it + i) + M 76 0 (20 * it + i)) = w at H
  have hwi : ∀ i, w i = M 69 0 (20 * it + i) + M 76 0 (20 * it + i) := fun i => by rw [← hwe]
  have hwb : ∀ i, 0 ≤ w i ∧ w i ≤ 16 := fun i => by rw [hwi]; exact hw _
  have main : ∀ (u4 u5 u6 u7 : qV) (M3 : qM), (∀ (k : Nat) (m s : Int), ¬ ((k = 84 ∨ k = 85 ∨ k = 86) ∧ m = 0) → M3 k m s = M k m s) → (M3 84 0 n = 0 ∧ M3 85 0 n = 0 ∧ ∀ i, n - 1 < i → i < n → p_best w (M3 84 0) (M3 85 0) n W i (n + 1) (M3 84 0 i) (M3 85 0 i) (M3 86 0 i)) → b178_25 d h f it n (n - 1) u4 u5 u6 u7 M3 := by
    refine q_dnto (P := fun j => ∀ (u4 u5 u6 u7 : qV) (M3 : qM), (∀ (k : Nat) (m s : Int), ¬ ((k = 84 ∨ k = 85 ∨ k = 86) ∧ m = 0) → M3 k m s = M k m s) → (M3 84 0 n = 0 ∧ M3 85 0 n = 0 ∧ ∀ i, j < i → i < n → p_best w (M3 84 0) (M3 85 0) n W i (n + 1) (M3 84 0 i) (M3 85 0 i) (M3 86 0 i)) → b178_25 d h f it n j u4 u5 u6 u7 M3) (a := -1) (b := n - 1) (by omega) ?_ ?_
    · intro u4 u5 u6 u7 M3 hf ⟨i1, i2, i3⟩
      have tab : p_tab w (M3 84 0) (M3 85 0) (M3 86 0) n W := ⟨i1, i2, fun j j0 j1 => i3 j (by omega) j1⟩
      refine w178_25 hS ⟨fun _ => ⟨hit, fun M4 e4 => ?_⟩, fun q => absurd (by decide) q⟩
      -- the lines
      have lines : ∀ (t s : Nat) (M5 : qM), s + t = 21 → (∀ (k : Nat) (m x : Int), ¬ ((k = 81 ∧ m = 0 ∧ x = it) ∨ (k = 82 ∧ m = 0 ∧ 20 * it ≤ x ∧ x < 20 * it + n)) → M5 k m x = M3 k m x) → M5 81 0 it = s → (∀ u : Nat, u < s → p_end (M3 86 0) u < n ∧ M5 82 0 (20 * it + u) = p_end (M3 86 0) (u + 1)) → b178_252 d h f it n (p_end (M3 86 0) s) u4 u5 u6 u7 M5 := by
        intro t
        induction t with
        | zero =>
          intro s M5 hst _ _ hu
          exfalso
          have h1 := p_end_lt tab.2.2 20 (fun u hu' => (hu u (by omega)).1)
          have h2 := (hu 20 (by omega)).1
          omega
        | succ t ih =>
          intro s M5 hst h0 h2 hu
          have g2 := p_end_lt tab.2.2 s (fun u hu' => (hu u hu').1)
          have g3 : ∀ x, M5 86 0 x = M3 86 0 x := fun x => h0 _ _ _ (by omega)
          refine w178_252 hS ⟨fun h3 => ⟨⟨by omega, by omega⟩, hit, ⟨by omega, by omega⟩, ⟨by omega, by omega⟩, ⟨by omega, by omega⟩, fun M6 e6 => ?_⟩, fun h3 => ?_⟩
          · have k1 : M6 81 0 it = s := by rw [e6, qU_k (by decide)]; exact h2
            refine ⟨hit, ⟨by omega, by omega⟩, hit, fun M7 e7 => ⟨⟨by omega, by omega⟩, ?_⟩⟩
            have k2 : ∀ x, M7 86 0 x = M3 86 0 x := fun x => by rw [e7, qU_k (by decide), e6, qU_k (by decide), g3]
            rw [k2]
            refine ih (s + 1) M7 (by omega) ?_ ?_ ?_
            · intro k n' s' hk
              rw [← h0 k n' s' hk, e7, e6, h2]
              unfold qU
              grind
            · rw [e7, qU_s, k1]; omega
            · intro u hu'
              by_cases hus : u = s
              · subst hus
                refine ⟨by omega, ?_⟩
                rw [e7, qU_k (by decide), e6, h2, qU_s, g3]
                rfl
              · have := hu u (by omega)
                refine ⟨this.1, ?_⟩
                rw [e7, qU_k (by decide), e6, h2, qU_l (by omega)]
                exact this.2
          · refine ⟨hit, fun M6 e6 => ⟨hit, fun M7 e7 => ?_⟩⟩
            have lns : p_lns (M3 86 0) n s (fun x => M5 82 0 (20 * it + x)) := by
              refine ⟨⟨by omega, by omega⟩, ?_, ?_, ?_⟩
              · rw [show ((s : Int)).toNat = s by omega]; omega
              · intro u hu'; exact (hu u (by omega)).1
              · intro u hu'; exact (hu u (by omega)).2
            -- the widths
            have last : ∀ (M8 : qM), (∀ (k : Nat) (m x : Int), ¬ (k = 80 ∧ m = 0 ∧ 20 * it ≤ x ∧ x < 20 * it + n) → M8 k m x = M7 k m x) → (∀ i, 0 ≤ i → i < 0 → M8 80 0 (20 * it + i) = w i) → b178_323 d h f it n 0 u4 u5 u6 u7 M8 := by
              refine q_upto (P := fun j => ∀ (M8 : qM), (∀ (k : Nat) (m x : Int), ¬ (k = 80 ∧ m = 0 ∧ 20 * it ≤ x ∧ x < 20 * it + n) → M8 k m x = M7 k m x) → (∀ i, 0 ≤ i → i < j → M8 80 0 (20 * it + i) = w i) → b178_323 d h f it n j u4 u5 u6 u7 M8) (a := 0) (b := n) hn.1 ?_ ?_
              · intro M8 f8 k8
                have br : M8 11 0 23 = M 11 0 23 := by rw [f8 _ _ _ (by omega), e7, qU_k (by decide), e6, qU_k (by decide), h0 _ _ _ (by omega), hf _ _ _ (by omega)]
                refine w178_323 hS ⟨fun q => by omega, fun _ => ⟨⟨by omega, by omega⟩, fun M9 e9 => ?_⟩⟩
                have c81 : M9 81 0 it = s := by rw [e9, qU_k (by decide), f8 _ _ _ (by omega), e7, qU_k (by decide), e6, qU_k (by decide), h2]
                have c82 : (fun x => M9 82 0 (20 * it + x)) = (fun x => M5 82 0 (20 * it + x)) := by funext x; rw [e9, qU_k (by decide), f8 _ _ _ (by omega), e7, qU_k (by decide), e6, qU_k (by decide)]
                refine H M9 (fun k m x q => ?_) ?_ (by rw [e9, qU_s, br]) (fun i i0 i1 => by rw [e9, qU_k (by decide), k8 i i0 i1, hwi]) ⟨_, _, _, tab, ?_, ?_⟩
                · rw [e9]
                  have a1 := f8 k m x (by omega)
                  have a2 := h0 k m x (by omega)
                  have a3 := hf k m x (by omega)
                  unfold qU
                  rw [if_neg (by omega), a1, e7, e6]
                  unfold qU
                  rw [if_neg (by omega), if_neg (by omega), a2, a3]
                · have w1 : M6 11 0 1 = W := by rw [e6, qU_k (by decide), h0 _ _ _ (by omega), hf _ _ _ (by omega)]; exact hW1
                  rw [e9, qU_k (by decide), f8 _ _ _ (by omega), e7, qU_s, w1]
                · rw [e9, qU_k (by decide), f8 _ _ _ (by omega), e7, qU_k (by decide), e6, qU_s, h0 _ _ _ (by omega)]
                · rw [c81, c82]; exact lns
              · intro j j1 j2 ih2 M8 f8 k8
                have b1 : ∀ (k : Nat), k = 69 ∨ k = 76 → ∀ x, M8 k 0 x = M k 0 x := fun k hk x => by
                  rw [f8 _ _ _ (by omega), e7, qU_k (by omega), e6, qU_k (by omega), h0 _ _ _ (by omega), hf _ _ _ (by omega)]
                have b3 := hw (20 * it + j)
                refine w178_323 hS ⟨fun q => ⟨⟨by omega, by omega⟩, ⟨by omega, by omega⟩, ⟨by omega, by omega⟩, ⟨by omega, by omega⟩, t175 hS (by omega) (by rw [b1 69 (by omega), b1 76 (by omega)]; exact ⟨by omega, by omega⟩) ⟨by omega, fun M9 e9 => ⟨⟨by omega, by omega⟩, ih2 M9 ?_ ?_⟩⟩⟩, fun q => by omega⟩
                · intro k m x q
                  rw [← f8 k m x q, e9]
                  unfold qU
                  grind
                · intro i i0 i1
                  rw [e9]
                  by_cases hij : i = j
                  · subst hij; rw [qU_s, b1 69 (by omega), b1 76 (by omega), hwi]
                  · rw [qU_l (by omega)]; exact k8 i i0 (by omega)
            exact last M7 (fun _ _ _ _ => rfl) (fun i i0 i1 => by omega)
      refine lines 21 0 M4 (by omega) ?_ (by rw [e4, qU_s]; rfl) (fun u hu => by omega)
      intro k m x q
      rw [e4]
      unfold qU
      rw [if_neg (by omega)]
    · intro j j1 j2 ih u4 u5 u6 u7 M3 hf ⟨i1, i2, i3⟩
      have bd : ∀ a, j ≤ a → a ≤ n → ∀ i, a < i → i ≤ n → 0 ≤ M3 84 0 i ∧ M3 84 0 i ≤ 1000 * (n - i) ∧ 0 ≤ M3 85 0 i ∧ M3 85 0 i ≤ n - i := by
        intro a a1 a2
        refine q_upto (P := fun a => j ≤ a → ∀ i, a < i → i ≤ n → 0 ≤ M3 84 0 i ∧ M3 84 0 i ≤ 1000 * (n - i) ∧ 0 ≤ M3 85 0 i ∧ M3 85 0 i ≤ n - i) a2 (fun _ i k1 k2 => by omega) (fun a k1 k2 kh k3 i k4 k5 => ?_) a1
        have kh' := kh (by omega)
        by_cases hia : i = a + 1
        · by_cases hin : i = n
          · rw [hin, i1, i2]; omega
          · have := p_best_bd hwb hW ⟨by omega, by omega⟩ (i3 i (by omega) (by omega)) (fun x x1 x2 => kh' x (by omega) x2)
            omega
        · exact kh' i (by omega) k5
      refine w178_25 hS ⟨fun q => by omega, fun _ => ⟨⟨by omega, by omega⟩, fun M4 e4 => ⟨⟨by omega, by omega⟩, ?_⟩⟩⟩
      have f4 : ∀ (k : Nat) (m s : Int), ¬ (k = 84 ∧ m = 0 ∧ s = j) → M4 k m s = M3 k m s := by
        intro k m s q
        rw [e4]
        unfold qU
        rw [if_neg q]
      have b0 : (fun i => M4 69 0 (20 * it + i) + M4 76 0 (20 * it + i)) = w := by funext i; rw [f4 _ _ _ (by omega), f4 _ _ _ (by omega), hf _ _ _ (by omega), hf _ _ _ (by omega), hwi]
      refine t178_46 hS hit (by rw [f4 _ _ _ (by omega), hf _ _ _ (by omega)]; exact hW1) ⟨by omega, by omega, hn.2⟩ hW (fun i => by rw [f4 _ _ _ (by omega), f4 _ _ _ (by omega), hf _ _ _ (by omega), hf _ _ _ (by omega)]; exact hw i) (fun i k1 k2 => by rw [f4 _ _ _ (by omega), f4 _ _ _ (by omega)]; exact bd j (Int.le_refl _) (by omega) i k1 k2) (by rw [e4, qU_s]) (fun M5 v4 v5 v6 v7 f5 p5 => ?_)
      rw [b0] at p5
      rw [show j + -1 = j - 1 by omega]
      have s1 : ∀ x, x ≠ j → M5 84 0 x = M3 84 0 x ∧ M5 85 0 x = M3 85 0 x ∧ M5 86 0 x = M3 86 0 x := fun x hx => ⟨by rw [f5 _ _ _ (by omega), f4 _ _ _ (by omega)], by rw [f5 _ _ _ (by omega), f4 _ _ _ (by omega)], by rw [f5 _ _ _ (by omega), f4 _ _ _ (by omega)]⟩
      have s2 : ∀ i c l e (C' L' : Int → Int), j ≤ i → (∀ x, x ≠ j → C' x = M3 84 0 x ∧ L' x = M3 85 0 x) → p_best w C' L' n W i (n + 1) c l e → p_best w (M5 84 0) (M5 85 0) n W i (n + 1) c l e := by
        intro i c l e C' L' hi hcl ⟨g1, g2, g3, g4, g5⟩
        refine ⟨g1, g2, by rw [(s1 e (by omega)).1, ← (hcl e (by omega)).1]; exact g3, by rw [(s1 e (by omega)).2.1, ← (hcl e (by omega)).2]; exact g4, fun t t1 t2 t3 => ?_⟩
        rw [(s1 t (by omega)).1, (s1 t (by omega)).2.1, ← (hcl t (by omega)).1, ← (hcl t (by omega)).2]
        exact g5 t t1 t2 t3
      refine ih _ _ _ _ M5 (fun k m s q => by rw [← hf k m s q, f5 _ _ _ (by omega), f4 _ _ _ (by omega)]) ⟨by rw [(s1 n (by omega)).1]; exact i1, by rw [(s1 n (by omega)).2.1]; exact i2, fun i k1 k2 => ?_⟩
      by_cases hij : i = j
      · subst hij; exact s2 i _ _ _ _ _ (Int.le_refl _) (fun x hx => ⟨by rw [f4 _ _ _ (by omega)], by rw [f4 _ _ _ (by omega)]⟩) p5
      · rw [(s1 i hij).1, (s1 i hij).2.1, (s1 i hij).2.2]
        exact s2 i _ _ _ _ _ (by omega) (fun x hx => ⟨rfl, rfl⟩) (i3 i (by omega) k2)
  refine main _ _ _ _ M2 (fun k m s q => ?_) ⟨?_, ?_, fun i k1 k2 => by omega⟩
  · rw [e2, e1]
    unfold qU
    grind
  · rw [e2, qU_k (by decide), e1, qU_s]
  · rw [e2, qU_s]
