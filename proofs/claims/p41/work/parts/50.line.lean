theorem q_upto {P : Int → Prop} {a b : Int} (hab : a ≤ b) (he : P b) (hs : ∀ j, a ≤ j → j < b → P (j + 1) → P j) : P a := by
  have h : ∀ t : Nat, ∀ j, j + t = b → a ≤ j → P j := by
    intro t
    induction t with
    | zero => intro j hj _; rw [show j = b by omega]; exact he
    | succ t ih => intro j hj ha; exact hs j ha (by omega) (ih (j + 1) (by omega) (by omega))
  exact h (b - a).toNat a (by omega) (Int.le_refl _)
theorem q_dnto {P : Int → Prop} {a b : Int} (hab : a ≤ b) (he : P a) (hs : ∀ j, a < j → j ≤ b → P (j - 1) → P j) : P b := by
  have h : ∀ t : Nat, ∀ j, a + t = j → j ≤ b → P j := by
    intro t
    induction t with
    | zero => intro j hj _; rw [show j = a by omega]; exact he
    | succ t ih => intro j hj hb; exact hs j (by omega) hb (ih (j - 1) (by omega) (by omega))
  exact h (b - a).toNat b (by omega) (Int.le_refl _)
theorem q_sq {x : Int} (h : -1000 ≤ x) (h2 : x ≤ 1000) : qIn (x * x) ∧ 0 ≤ x * x ∧ x * x ≤ 1000000 := by
  have h3 : 0 ≤ x * x := by rcases Int.le_total 0 x with h | h; exact Int.mul_nonneg h h; exact Int.mul_nonneg_of_nonpos_of_nonpos h h
  have h4 : 0 ≤ (1000 - x) * (1000 + x) := Int.mul_nonneg (by omega) (by omega)
  have h5 : (1000 - x) * (1000 + x) = 1000000 - x * x := by rw [Int.sub_mul, Int.mul_add, Int.mul_add, Int.mul_comm x 1000]; omega
  unfold qIn
  omega
/-- lines: lengths with a blank behind each word -/
def p_wsN (w : Int → Int) : Nat → Int
  | 0 => 0
  | j + 1 => p_wsN w j + w j + 1
def p_ws (w : Int → Int) (x : Int) : Int := p_wsN w x.toNat
theorem p_ws_s {w : Int → Int} {x : Int} (h : 0 ≤ x) : p_ws w (x + 1) = p_ws w x + w x + 1 := by
  unfold p_ws
  rw [show (x + 1).toNat = x.toNat + 1 by omega]
  show p_wsN w x.toNat + w (x.toNat : Int) + 1 = _
  rw [show (x.toNat : Int) = x by omega]
def p_len (w : Int → Int) (j to : Int) : Int := p_ws w to - p_ws w j - 1
def p_feas (w : Int → Int) (W j to : Int) : Prop := to = j + 1 ∨ p_len w j to ≤ W
def p_lc (w : Int → Int) (n W j to : Int) : Int := if p_len w j to ≤ W then (if to = n then 0 else (W - p_len w j to) * (W - p_len w j to)) else 100 * (p_len w j to - W)
/-- the best line from j on of those that end ahead of hi -/
def p_best (w C L : Int → Int) (n W j hi c l e : Int) : Prop := (j < e ∧ e < hi) ∧ p_feas w W j e ∧ c = p_lc w n W j e + C e ∧ l = L e + 1 ∧ ∀ to, j < to → to < hi → p_feas w W j to → c < p_lc w n W j to + C to ∨ (c = p_lc w n W j to + C to ∧ (l < L to + 1 ∨ (l = L to + 1 ∧ to ≤ e)))
theorem t47 {d : Nat} {h : qH} (hS : qSe h) {n i : Int} {M : qM} {f : Int → qM → Prop} (hi : 0 ≤ i ∧ i < 20) (hb : qIn (M 32 n i + M 35 n i)) (H : f (M 32 n i + M 35 n i) M) : e47 (d + 1) h n i M f :=
  w47 hS ⟨hi, hi, hb, H⟩
theorem t3 {d : Nat} {h : qH} (hS : qSe h) {x l : Int} {M : qM} {f : Int → qM → Prop} (hx : -1000 ≤ x ∧ x ≤ 1000) (H : f (if x < 0 then -100 * x else if l = 0 then x * x else 0) M) : e3 (d + 1) h x l M f := by
  have := q_sq hx.1 hx.2
  refine w3 hS ?_
  grind
/-- all but the line from j on stays -/
def fr2 (j : Int) (M M' : qM) : Prop := ∀ (k : Nat) (n s : Int), ¬ ((k = 12 ∨ k = 13 ∨ k = 14) ∧ n = 0 ∧ s = j) → M' k n s = M k n s
theorem t2 {d : Nat} {h : qH} (hS : qSe h) {n it j W : Int} {M : qM} {f : qM → Prop} (hn : M 5 it 2 = n) (hj : 0 ≤ j ∧ j < n ∧ n ≤ 20) (hW : 8 ≤ W ∧ W ≤ 30)
    (hw : ∀ i, 0 ≤ M 32 it i + M 35 it i ∧ M 32 it i + M 35 it i ≤ 16)
    (hC : ∀ i, j < i → i ≤ n → 0 ≤ M 12 0 i ∧ M 12 0 i ≤ 1000 * (n - i) ∧ 0 ≤ M 13 0 i ∧ M 13 0 i ≤ n - i)
    (H : ∀ M', fr2 j M M' → p_best (fun i => M 32 it i + M 35 it i) (M 12 0) (M 13 0) n W j (n + 1) (M' 12 0 j) (M' 13 0 j) (M' 14 0 j) → f M') : e2 (d + 2) h it j W M f := by
  generalize hwe : (fun i => M 32 it i + M 35 it i) = w at H
  have hwi : ∀ i, w i = M 32 it i + M 35 it i := fun i => by rw [← hwe]
  have hmono : ∀ a b : Int, 0 ≤ a → a ≤ b → p_ws w a ≤ p_ws w b ∧ p_ws w b ≤ p_ws w a + 17 * (b - a) := by
    intro a b ha hab
    refine q_upto (P := fun x => p_ws w x ≤ p_ws w b ∧ p_ws w b ≤ p_ws w x + 17 * (b - x)) hab ⟨by omega, by omega⟩ (fun x h1 h2 h3 => ?_)
    have := p_ws_s (w := w) (x := x) (by omega)
    have := hw x
    rw [← hwi] at this
    omega
  refine w2 hS ⟨by omega, fun M1 e1 => ⟨⟨by omega, by omega⟩, ?_⟩⟩
  have main : ∀ (u : qV) (M1 : qM), fr2 j M M1 → ((j + 1 = j + 1 ∧ M1 12 0 j = 268435456) ∨ (j + 1 < j + 1 ∧ p_best w (M 12 0) (M 13 0) n W j (j + 1) (M1 12 0 j) (M1 13 0 j) (M1 14 0 j))) → b2_16 d h f it j W (p_ws w (j + 1 - 1) - p_ws w j - 1) (j + 1) u M1 := by
    refine q_upto (P := fun to => ∀ (u : qV) (M1 : qM), fr2 j M M1 → ((to = j + 1 ∧ M1 12 0 j = 268435456) ∨ (j + 1 < to ∧ p_best w (M 12 0) (M 13 0) n W j to (M1 12 0 j) (M1 13 0 j) (M1 14 0 j))) → b2_16 d h f it j W (p_ws w (to - 1) - p_ws w j - 1) to u M1) (a := j + 1) (b := n + 1) (by omega) ?_ ?_
    · intro u M1 hf hi
      refine w2_16 hS ⟨fun h1 => ?_, fun h1 => ?_⟩
      · exfalso
        have : M1 5 it 2 = n := by rw [← hn]; exact hf _ _ _ (by omega)
        omega
      · rcases hi with ⟨h2, h3⟩ | ⟨h2, h3⟩
        · exfalso; omega
        · exact H M1 hf h3
    · intro to h1 h2 ih u M1 hf hi
      have g0 : M1 5 it 2 = n := by rw [← hn]; exact hf _ _ _ (by omega)
      have g1 : M1 32 it (to - 1) + M1 35 it (to - 1) = w (to - 1) := by rw [hwi, hf 32 _ _ (by omega), hf 35 _ _ (by omega)]
      have g2 := hw (to - 1)
      rw [← hwi] at g2
      have g3 := p_ws_s (w := w) (x := to - 1) (by omega)
      rw [show to - 1 + 1 = to by omega] at g3
      rw [show to + 1 - 1 = to by omega] at ih
      have g4 := hmono j to (by omega) (by omega)
      have g5 : p_len w j to = p_ws w to - p_ws w j - 1 := rfl
      refine w2_16 hS ⟨fun h3 => ⟨⟨by omega, by omega⟩, t47 hS ⟨by omega, by omega⟩ (by rw [g1]; exact ⟨by omega, by omega⟩) ?_⟩, fun h3 => by omega⟩
      rw [g1]
      have big : (p_feas w W j to) → b2_57 d h f it j W (p_ws w (to - 1) - p_ws w j - 1 + (1 + w (to - 1))) to u M1 := by
        intro hfe
        rw [show p_ws w (to - 1) - p_ws w j - 1 + (1 + w (to - 1)) = p_len w j to by omega]
        refine w2_57 hS ⟨⟨by omega, by omega⟩, ⟨by omega, by omega⟩, fun x hx => t3 hS ⟨by omega, by omega⟩ ?_⟩
        have g6 : M1 12 0 to = M 12 0 to ∧ M1 13 0 to = M 13 0 to := ⟨hf _ _ _ (by omega), hf _ _ _ (by omega)⟩
        have g7 := hC to (by omega) (by omega)
        have g8 : (if W - p_len w j to < 0 then -100 * (W - p_len w j to) else if x = 0 then (W - p_len w j to) * (W - p_len w j to) else 0) = p_lc w n W j to := by
          unfold p_lc
          rw [g0] at hx
          split <;> split <;> grind
        rw [g8]
        have g9 : 0 ≤ p_lc w n W j to ∧ p_lc w n W j to ≤ 1000000 := by
          have := q_sq (x := W - p_len w j to) (by omega) (by omega)
          unfold p_lc
          split
          · split <;> omega
          · omega
        have upd : ∀ M2 : qM, fr2 j M M2 → M2 12 0 j = p_lc w n W j to + M 12 0 to → M2 13 0 j = M 13 0 to + 1 → M2 14 0 j = to → (to = j + 1 ∨ ∀ t, j < t → t < to → p_feas w W j t → M2 12 0 j < p_lc w n W j t + M 12 0 t ∨ (M2 12 0 j = p_lc w n W j t + M 12 0 t ∧ (M2 13 0 j < M 13 0 t + 1 ∨ (M2 13 0 j = M 13 0 t + 1 ∧ t ≤ to)))) → p_best w (M 12 0) (M 13 0) n W j (to + 1) (M2 12 0 j) (M2 13 0 j) (M2 14 0 j) := by
          intro M2 k0 k1 k2 k3 k4
          refine ⟨⟨by omega, by omega⟩, by rw [k3]; exact hfe, by rw [k1, k3], by rw [k2, k3], fun t t1 t2 t3 => ?_⟩
          by_cases ht : t = to
          · subst ht; rw [k1, k2, k3]; exact Or.inr ⟨rfl, Or.inr ⟨rfl, by omega⟩⟩
          · rcases k4 with k4 | k4
            · omega
            · rw [k3]; exact k4 t t1 (by omega) t3
        have st : (to = j + 1 ∨ ∀ t, j < t → t < to → p_feas w W j t → p_lc w n W j to + M 12 0 to < p_lc w n W j t + M 12 0 t ∨ (p_lc w n W j to + M 12 0 to = p_lc w n W j t + M 12 0 t ∧ (M 13 0 to + 1 < M 13 0 t + 1 ∨ (M 13 0 to + 1 = M 13 0 t + 1 ∧ t ≤ to)))) → b2_128 d h f it j W (p_len w j to) to (M1 12 0 to + p_lc w n W j to) M1 := by
          intro k4
          refine w2_128 hS ⟨⟨by omega, by omega⟩, fun M2 e2 => ⟨⟨by omega, by omega⟩, ?_⟩⟩
          have e21 : M2 13 0 to = M 13 0 to := by rw [e2, qU_k (by decide)]; exact g6.2
          refine ⟨⟨by omega, by omega⟩, ⟨by omega, by omega⟩, fun M3 e3 => ⟨⟨by omega, by omega⟩, fun M4 e4 => ⟨⟨by omega, by omega⟩, ?_⟩⟩⟩
          have x1 : M4 12 0 j = p_lc w n W j to + M 12 0 to := by rw [e4, qU_k (by decide), e3, qU_k (by decide), e2, qU_s, g6.1]; omega
          have x2 : M4 13 0 j = M 13 0 to + 1 := by rw [e4, qU_k (by decide), e3, qU_s, e21]
          have x3 : M4 14 0 j = to := by rw [e4, qU_s]
          have x0 : fr2 j M M4 := by
            intro k n s hk
            rw [← hf k n s hk, e4, e3, e2]
            unfold qU
            grind
          refine ih _ M4 x0 (Or.inr ⟨by omega, upd M4 x0 x1 x2 x3 ?_⟩)
          rw [x1, x2]
          exact k4
        rw [g6.1] at st ⊢
        refine ⟨⟨by omega, by omega⟩, ⟨by omega, by omega⟩, fun h4 => st ?_, fun h4 => ⟨⟨by omega, by omega⟩, fun h5 => ?_, fun h5 => ?_⟩⟩
        · rcases hi with ⟨k1, k2⟩ | ⟨k1, k2⟩
          · exact Or.inl k1
          · right
            intro t t1 t2 t3
            have := k2.2.2.2.2 t t1 t2 t3
            omega
        · rcases hi with ⟨k1, k2⟩ | ⟨k1, k2⟩
          · omega
          · rw [g6.2]
            have k3 := k2.2.2.2.1
            have k6 : 0 ≤ M 13 0 (M1 14 0 j) ∧ M 13 0 (M1 14 0 j) ≤ 100 := by have kk := k2.1; have := hC (M1 14 0 j) k2.1.1 (by omega); omega
            refine ⟨⟨by omega, by omega⟩, ⟨by omega, by omega⟩, ⟨by omega, by omega⟩, fun h6 => st ?_, fun h6 => ⟨⟨by omega, by omega⟩, ih _ M1 hf (Or.inr ⟨by omega, ?_⟩)⟩⟩
            · right
              intro t t1 t2 t3
              have := k2.2.2.2.2 t t1 t2 t3
              omega
            · refine ⟨⟨k2.1.1, by have := k2.1.2; omega⟩, k2.2.1, k2.2.2.1, k2.2.2.2.1, fun t t1 t2 t3 => ?_⟩
              by_cases ht : t = to
              · subst ht; omega
              · exact k2.2.2.2.2 t t1 (by omega) t3
        · rcases hi with ⟨k1, k2⟩ | ⟨k1, k2⟩
          · omega
          · refine ⟨⟨by omega, by omega⟩, ih _ M1 hf (Or.inr ⟨by omega, ?_⟩)⟩
            refine ⟨⟨k2.1.1, by have := k2.1.2; omega⟩, k2.2.1, k2.2.2.1, k2.2.2.2.1, fun t t1 t2 t3 => ?_⟩
            by_cases ht : t = to
            · subst ht; omega
            · exact k2.2.2.2.2 t t1 (by omega) t3
      refine ⟨⟨by omega, by omega⟩, ⟨by omega, by omega⟩, fun h4 => big (Or.inr (by omega)), fun h4 => ⟨⟨by omega, by omega⟩, fun h5 => big (Or.inl (by omega)), fun h5 => ?_⟩⟩
      rcases hi with ⟨k1, k2⟩ | ⟨k1, k2⟩
      · omega
      · refine H M1 hf ⟨⟨k2.1.1, by have := k2.1.2; omega⟩, k2.2.1, k2.2.2.1, k2.2.2.2.1, fun t t1 t2 t3 => ?_⟩
        by_cases ht : t < to
        · exact k2.2.2.2.2 t t1 ht t3
        · exfalso
          have k7 := hmono to t (by omega) (by omega)
          rcases t3 with t3 | t3
          · omega
          · unfold p_len at t3
            omega
  have hm := main q_u M1 (fun k n s hk => by rw [e1]; unfold qU; grind) (Or.inl ⟨rfl, by rw [e1, qU_s]⟩)
  rw [show p_ws w (j + 1 - 1) - p_ws w j - 1 = -1 by rw [show j + 1 - 1 = j by omega]; omega] at hm
  exact hm
