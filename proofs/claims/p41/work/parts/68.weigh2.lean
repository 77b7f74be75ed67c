/-! ===== PageMaker.weighPage, weigh ===== -/
/-- a place's least costs and choices change alone -/
def fr73 (p : Int) (M M' : qM) : Prop := ∀ (k : Nat) (m s : Int), ¬ ((k = 41 ∨ k = 42) ∧ m = 0 ∧ p * 16 ≤ s ∧ s < p * 16 + 16) → M' k m s = M k m s
theorem t73 {d : Nat} {h : qH} (hS : qSe h) {T : pT} {a b f m n p q w : Int} {M : qM} {F : qM → Prop} (h7 : M 7 0 7 = g_fill T a b f m n) (h8 : M 7 0 8 = g_cost T a b f m n) (h9 : M 7 0 9 = g_last T a b f m n) (hfi : 1 ≤ g_fill T a b f m n ∧ g_fill T a b f m n ≤ 14) (hco : 0 ≤ g_cost T a b f m n ∧ g_cost T a b f m n ≤ 400)
    (hp : 0 ≤ p ∧ p < 1420) (hq : 0 ≤ q ∧ q < 1420) (hpq : p < q) (hv : 0 ≤ M 40 0 p ∧ M 40 0 p < 65536) (hl : ∀ s, 0 ≤ M 41 0 s ∧ M 41 0 s ≤ 300000000)
    (H : ∀ M', fr73 p M M' → (∀ x, 0 ≤ x → x ≤ 15 → (q_bs (M 40 0 p) x ∧ g_cost T a b f m n + g_far T a b f m n x + M 41 0 (q * 16 + g_ahead T a b f m n x) < M 41 0 (p * 16 + x) ∧ M' 41 0 (p * 16 + x) = g_cost T a b f m n + g_far T a b f m n x + M 41 0 (q * 16 + g_ahead T a b f m n x) ∧ M' 42 0 (p * 16 + x) = w) ∨ (¬ (q_bs (M 40 0 p) x ∧ g_cost T a b f m n + g_far T a b f m n x + M 41 0 (q * 16 + g_ahead T a b f m n x) < M 41 0 (p * 16 + x)) ∧ M' 41 0 (p * 16 + x) = M 41 0 (p * 16 + x) ∧ M' 42 0 (p * 16 + x) = M 42 0 (p * 16 + x))) → F M') : e73 (d + 2) h p q w M F := by
  have far0 : g_far T a b f m n 0 = 0 := by unfold g_far; rw [if_pos rfl]
  have ah0 : g_ahead T a b f m n 0 = g_fill T a b f m n := by unfold g_ahead; rw [if_pos rfl]
  have ah1 : ∀ x, x ≠ 0 → g_ahead T a b f m n x = 0 := fun x hx => by unfold g_ahead; rw [if_neg hx]
  have farb : ∀ x, 0 ≤ x → x ≤ 15 → 0 ≤ g_far T a b f m n x ∧ g_far T a b f m n x ≤ 15 := fun x x0 x1 => by
    unfold g_far
    split
    · omega
    · split
      · omega
      · split
        · split <;> omega
        · omega
  -- what is true of the places of which those ahead below z are done
  let R : Int → qM → Prop := fun z M' => fr73 p M M' ∧ ∀ x, 0 ≤ x → x ≤ 15 → (x < z ∧ q_bs (M 40 0 p) x ∧ g_cost T a b f m n + g_far T a b f m n x + M 41 0 (q * 16 + g_ahead T a b f m n x) < M 41 0 (p * 16 + x) ∧ M' 41 0 (p * 16 + x) = g_cost T a b f m n + g_far T a b f m n x + M 41 0 (q * 16 + g_ahead T a b f m n x) ∧ M' 42 0 (p * 16 + x) = w) ∨ (¬ (x < z ∧ q_bs (M 40 0 p) x ∧ g_cost T a b f m n + g_far T a b f m n x + M 41 0 (q * 16 + g_ahead T a b f m n x) < M 41 0 (p * 16 + x)) ∧ M' 41 0 (p * 16 + x) = M 41 0 (p * 16 + x) ∧ M' 42 0 (p * 16 + x) = M 42 0 (p * 16 + x))
  have behind : ∀ (M1 : qM), R 1 M1 → ∀ (u5 u6 u7 : qV), b73_45 d h F p q w (M 40 0 p) u5 u6 u7 M1 := by
    intro M1 hR1 u5 u6 u7
    have l0 := hl (q * 16 + 0)
    have e0 : M1 41 0 (q * 16 + 0) = M 41 0 (q * 16 + 0) := hR1.1 _ _ _ (by omega)
    have e8 : M1 7 0 8 = g_cost T a b f m n := by rw [hR1.1 _ _ _ (by omega)]; exact h8
    refine w73_45 hS ?_
    rw [e0, e8, q_shr1]
    refine ⟨⟨by omega, by omega⟩, ⟨by omega, by omega⟩, ⟨by omega, by omega⟩, ⟨by omega, by omega⟩, ⟨hv.1, by decide, by decide⟩, ?_⟩
    refine q_upto (P := fun x => 1 ≤ x → ∀ (v : Int) (u2 u4 : qV) (M2 : qM), R x M2 → (0 ≤ v ∧ v < 65536) → (∀ y, 0 ≤ y → (q_bs v y ↔ q_bs (M 40 0 p) (y + x))) → b73_72 d h F p u2 w u4 (g_cost T a b f m n + M 41 0 (q * 16 + 0)) v x M2) (a := 1) (b := 16) (by omega) ?_ ?_ (Int.le_refl _) _ _ _ M1 hR1 ⟨by omega, by omega⟩ (fun y y0 => q_bs_half hv.1 y0)
    · intro _ v u2 u4 M2 hR2 _ _
      refine w73_72 hS ⟨fun q => absurd q (by decide), fun _ => H M2 hR2.1 (fun x x0 x1 => ?_)⟩
      rcases hR2.2 x x0 x1 with ⟨_, g2, g3, g4, g5⟩ | ⟨g1, g2, g3⟩
      · exact Or.inl ⟨g2, g3, g4, g5⟩
      · exact Or.inr ⟨fun z => g1 ⟨by omega, z.1, z.2⟩, g2, g3⟩
    · intro x _ x16 ih x1 v u2 u4 M2 hR2 hvb hbits
      have skip : ¬ q_bs (M 40 0 p) x → R (x + 1) M2 := by
        intro hno
        refine ⟨hR2.1, fun y y0 y1 => ?_⟩
        rcases hR2.2 y y0 y1 with ⟨g1, g2, g3, g4, g5⟩ | ⟨g1, g2, g3⟩
        · exact Or.inl ⟨by omega, g2, g3, g4, g5⟩
        · refine Or.inr ⟨fun z => ?_, g2, g3⟩
          by_cases hyx : y = x
          · rw [hyx] at z; exact hno z.2.1
          · exact g1 ⟨by omega, z.2⟩
      have half : ∀ y, 0 ≤ y → (q_bs (v / 2) y ↔ q_bs (M 40 0 p) (y + (x + 1))) := fun y y0 => by
        rw [q_bs_half hvb.1 y0, hbits (y + 1) (by omega), show y + 1 + x = y + (x + 1) by omega]
      have z0 := hbits 0 (Int.le_refl _)
      rw [show 0 + x = x by omega] at z0
      refine w73_72 hS ⟨fun _ => ⟨fun kv => H M2 hR2.1 (fun y y0 y1 => ?_), fun kv => ?_⟩, fun q => by omega⟩
      · rcases hR2.2 y y0 y1 with ⟨g1, g2, g3, g4, g5⟩ | ⟨g1, g2, g3⟩
        · exact Or.inl ⟨g2, g3, g4, g5⟩
        · refine Or.inr ⟨fun z => ?_, g2, g3⟩
          by_cases hyx : y < x
          · exact g1 ⟨hyx, z.1, z.2⟩
          · have := (hbits (y - x) (by omega)).mpr (by rw [show y - x + x = y by omega]; exact z.1)
            rw [kv] at this
            exact q_bs_z this
      · rw [q_and1 hvb, q_shr1]
        refine ⟨fun k => ⟨⟨hvb.1, by decide, by decide⟩, ⟨by omega, by omega⟩, ih (by omega) (v / 2) _ _ M2 (skip (fun z => by have := (q_bs0 hvb.1).mp (z0.mpr z); omega)) ⟨by omega, by omega⟩ half⟩, fun k => ?_⟩
        have hbit : q_bs (M 40 0 p) x := z0.mp ((q_bs0 hvb.1).mpr (by omega))
        have e7 : M2 7 0 7 = g_fill T a b f m n := by rw [hR2.1 _ _ _ (by omega)]; exact h7
        have e9 : M2 7 0 9 = g_last T a b f m n := by rw [hR2.1 _ _ _ (by omega)]; exact h9
        have fb := farb x (by omega) (by omega)
        have ahx := ah1 x (by omega)
        have old : M2 41 0 (p * 16 + x) = M 41 0 (p * 16 + x) ∧ M2 42 0 (p * 16 + x) = M 42 0 (p * 16 + x) := by
          rcases hR2.2 x (by omega) (by omega) with ⟨g1, _⟩ | ⟨g1, g2, g3⟩
          · omega
          · exact ⟨g2, g3⟩
        refine ⟨⟨by omega, by omega⟩, ⟨by omega, by omega⟩, t60 hS (T := T) (a := a) (b := b) (f := f) (m := m) (n := n) e7 e9 hfi ⟨by omega, by omega⟩ ⟨⟨by omega, by omega⟩, ?_⟩⟩
        have es : g_cost T a b f m n + M 41 0 (q * 16 + 0) + g_far T a b f m n x = g_cost T a b f m n + g_far T a b f m n x + M 41 0 (q * 16 + g_ahead T a b f m n x) := by rw [ahx]; omega
        rw [es]
        refine t74 hS ⟨by omega, by omega⟩ (fun kl M3 O3 c1 c2 => ⟨⟨hvb.1, by decide, by decide⟩, ⟨by omega, by omega⟩, ih (by omega) (v / 2) _ _ M3 ⟨fun k m s z => ?_, fun y y0 y1 => ?_⟩ ⟨by omega, by omega⟩ half⟩) (fun kl => ⟨⟨hvb.1, by decide, by decide⟩, ⟨by omega, by omega⟩, ih (by omega) (v / 2) _ _ M2 ⟨hR2.1, fun y y0 y1 => ?_⟩ ⟨by omega, by omega⟩ half⟩)
        · rw [O3 k m s (by omega)]; exact hR2.1 k m s z
        · by_cases hyx : y = x
          · subst hyx
            rw [old.1] at kl
            exact Or.inl ⟨by omega, hbit, kl, c1, c2⟩
          · rw [O3 _ _ _ (by omega), O3 _ _ _ (by omega)]
            rcases hR2.2 y y0 y1 with ⟨g1, g2, g3, g4, g5⟩ | ⟨g1, g2, g3⟩
            · exact Or.inl ⟨by omega, g2, g3, g4, g5⟩
            · exact Or.inr ⟨fun z => g1 ⟨by omega, z.2⟩, g2, g3⟩
        · rcases hR2.2 y y0 y1 with ⟨g1, g2, g3, g4, g5⟩ | ⟨g1, g2, g3⟩
          · exact Or.inl ⟨by omega, g2, g3, g4, g5⟩
          · refine Or.inr ⟨fun z => ?_, g2, g3⟩
            by_cases hyx : y = x
            · rw [hyx] at z
              rw [old.1] at kl
              exact kl z.2.2
            · exact g1 ⟨by omega, z.2⟩
  refine w73 hS ⟨hp, fun k => ?_, fun k => ?_⟩
  · rw [q_and1 hv] at k
    refine behind M ⟨fun _ _ _ _ => rfl, fun x x0 x1 => Or.inr ⟨fun z => ?_, rfl, rfl⟩⟩ _ _ _
    have hx0 : x = 0 := by omega
    rw [hx0] at z
    have := (q_bs0 hv.1).mp z.2.1
    omega
  · rw [q_and1 hv] at k
    have hbit : q_bs (M 40 0 p) 0 := (q_bs0 hv.1).mpr (by omega)
    have l1 := hl (q * 16 + g_fill T a b f m n)
    rw [h7, h8]
    refine ⟨⟨by omega, by omega⟩, ⟨by omega, by omega⟩, ⟨by omega, by omega⟩, ⟨by omega, by omega⟩, ⟨by omega, by omega⟩, ⟨by omega, by omega⟩, ?_⟩
    have es : g_cost T a b f m n + M 41 0 (q * 16 + g_fill T a b f m n) = g_cost T a b f m n + g_far T a b f m n 0 + M 41 0 (q * 16 + g_ahead T a b f m n 0) := by rw [ah0, far0]; omega
    rw [es]
    refine t74 hS ⟨by omega, by omega⟩ (fun kl M3 O3 c1 c2 => ?_) (fun kl => ?_)
    · have e40 : M 40 0 p = M 40 0 p := rfl
      refine behind M3 ⟨fun k m s z => O3 k m s (by omega), fun y y0 y1 => ?_⟩ _ _ _
      by_cases hy : y = 0
      · subst hy; exact Or.inl ⟨by omega, hbit, kl, c1, c2⟩
      · exact Or.inr ⟨fun z => by omega, O3 _ _ _ (by omega), O3 _ _ _ (by omega)⟩
    · refine behind M ⟨fun _ _ _ _ => rfl, fun y y0 y1 => Or.inr ⟨fun z => ?_, rfl, rfl⟩⟩ _ _ _
      have hy : y = 0 := by omega
      rw [hy] at z
      exact kl z.2.2
