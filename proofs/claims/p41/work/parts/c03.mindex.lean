/-! ===== ranges of pages; the index of the model ===== -/
def x_iv (n : Int) (a b : Int → Int) (on : Int → Prop) : Prop := 0 ≤ n ∧ (∀ i, 0 ≤ i → i < n → 1 ≤ a i ∧ a i ≤ b i ∧ b i ≤ 398) ∧ (∀ i, 0 ≤ i → i + 1 < n → b i + 1 < a (i + 1)) ∧ ∀ p, on p ↔ ∃ i, (0 ≤ i ∧ i < n) ∧ a i ≤ p ∧ p ≤ b i
theorem x_iv_lt {n : Int} {a b : Int → Int} {on : Int → Prop} (h : x_iv n a b on) {i j : Int} (hi : 0 ≤ i) (hij : i < j) (hj : j < n) : b i + 1 < a j := by
  obtain ⟨h1, h2, h3, h4⟩ := h
  refine q_upto (P := fun x => i + 1 ≤ x → b i + 1 < a x → b i + 1 < a j) (a := i + 1) (b := j) (by omega) (fun _ q => q) (fun x x0 x1 ih _ q => ih (by omega) ?_) (Int.le_refl _) (h3 i hi (by omega))
  have := h2 x (by omega) (by omega)
  have := h3 x (by omega) (by omega)
  omega
theorem x_iv_one {n : Int} {a b : Int → Int} {on : Int → Prop} (h : x_iv n a b on) {i j p : Int} (hi : 0 ≤ i ∧ i < n) (hj : 0 ≤ j ∧ j < n) (h1 : a i ≤ p ∧ p ≤ b i) (h2 : a j ≤ p ∧ p ≤ b j) : i = j := by
  refine Classical.byContradiction fun z => ?_
  by_cases q : i < j
  · have := x_iv_lt h hi.1 q hj.2; omega
  · have := x_iv_lt h hj.1 (show j < i by omega) hi.2; omega
/-- how many ranges begin up to p -/
def x_cn (n : Int) (a : Int → Int) (p : Int) : Int := p_sum (fun i => if a i ≤ p then 1 else 0) n
theorem x_iv_at {n : Int} {a b : Int → Int} {on : Int → Prop} (h : x_iv n a b on) {i p : Int} (hi : 0 ≤ i ∧ i < n) (hp : a i ≤ p) (hn : i + 1 < n → p < a (i + 1)) : x_cn n a p = i + 1 := by
  unfold x_cn
  refine p_sum_th (fun k k0 k1 => ?_) (fun k k0 k1 => ?_) (by omega)
  · by_cases q : k = i
    · rw [q, if_pos hp]
    · have := x_iv_lt h k0 (show k < i by omega) hi.2
      have := h.2.1 k k0 (by omega)
      rw [if_pos (by omega)]
  · have e := hn (by omega)
    by_cases q : k = i + 1
    · rw [q, if_neg (by omega)]
    · have := x_iv_lt h (i := i + 1) (by omega) (show i + 1 < k by omega) k1
      have := h.2.1 (i + 1) (by omega) (by omega)
      rw [if_neg (by omega)]
theorem x_cn_b {n : Int} {a : Int → Int} {p : Int} (hn : 0 ≤ n) : 0 ≤ x_cn n a p ∧ x_cn n a p ≤ n := by
  have := p_sum_bd (g := fun i => if a i ≤ p then 1 else 0) (b := 1) (n := n) (fun k => by show 0 ≤ (if a k ≤ p then (1 : Int) else 0) ∧ (if a k ≤ p then (1 : Int) else 0) ≤ 1; split <;> omega) hn
  unfold x_cn; omega
theorem x_iv_s {n : Int} {a b : Int → Int} {on : Int → Prop} (h : x_iv n a b on) (p : Int) : x_cn n a p = x_cn n a (p - 1) + @ite Int (on p ∧ ¬ on (p - 1)) (Classical.propDecidable _) 1 0 := by
  obtain ⟨h1, h2, h3, h4⟩ := id h
  by_cases q : ∃ i, (0 ≤ i ∧ i < n) ∧ a i = p
  · obtain ⟨i, i1, i2⟩ := q
    have ai := h2 i i1.1 i1.2
    have on1 : on p ∧ ¬ on (p - 1) := ⟨(h4 p).mpr ⟨i, i1, by omega, by omega⟩, fun z => by
      obtain ⟨j, j1, j2, j3⟩ := (h4 (p - 1)).mp z
      have aj := h2 j j1.1 j1.2
      by_cases e : j < i
      · have := x_iv_lt h j1.1 e i1.2; omega
      · by_cases e2 : i < j
        · have := x_iv_lt h i1.1 e2 j1.2; omega
        · have : i = j := by omega
          subst this; omega⟩
    rw [if_pos on1]
    have e1 : x_cn n a p = i + 1 := x_iv_at h i1 (by omega) (fun z => by have := h3 i i1.1 z; omega)
    have e2 : x_cn n a (p - 1) = i := by
      by_cases e : i = 0
      · unfold x_cn
        rw [e]
        exact p_sum_th (fun k k0 k1 => by omega) (fun k k0 k1 => by
          by_cases ek : k = i
          · rw [ek, if_neg (by omega)]
          · have := x_iv_lt h i1.1 (show i < k by omega) k1
            rw [if_neg (by omega)]) ⟨Int.le_refl _, h1⟩
      · have := h3 (i - 1) (by omega) (by omega)
        have := h2 (i - 1) (by omega) (by omega)
        rw [show i - 1 + 1 = i by omega] at *
        rw [x_iv_at h (i := i - 1) (by omega) (by omega) (fun _ => by rw [show i - 1 + 1 = i by omega]; omega)]
        omega
    omega
  · have no : ¬ (on p ∧ ¬ on (p - 1)) := fun ⟨z1, z2⟩ => by
      obtain ⟨i, i1, i2, i3⟩ := (h4 p).mp z1
      have : a i ≠ p := fun z => q ⟨i, i1, z⟩
      exact z2 ((h4 (p - 1)).mpr ⟨i, i1, by omega, by omega⟩)
    rw [if_neg no]
    have : x_cn n a p = x_cn n a (p - 1) := p_sum_cg h1 (fun k k0 k1 => by
      have : a k ≠ p := fun z => q ⟨k, ⟨k0, k1⟩, z⟩
      by_cases e : a k ≤ p
      · rw [if_pos e, if_pos (by omega)]
      · rw [if_neg e, if_neg (by omega)])
    omega
theorem x_cn_0 {n : Int} {a b : Int → Int} {on : Int → Prop} (h : x_iv n a b on) : x_cn n a 0 = 0 := p_sum_th (fun k k0 k1 => by omega) (fun k k0 k1 => by have := h.2.1 k k0 k1; rw [if_neg (by omega)]) ⟨Int.le_refl _, h.1⟩
theorem x_cn_n {n : Int} {a b : Int → Int} {on : Int → Prop} (h : x_iv n a b on) {p : Int} (hp : 398 ≤ p) : x_cn n a p = n := p_sum_th (fun k k0 k1 => by have := h.2.1 k k0 k1; rw [if_pos (by omega)]) (fun k k0 k1 => by omega) ⟨h.1, Int.le_refl _⟩
noncomputable def x_is (on : Int → Prop) (p : Int) : Int := @ite Int (on p) (Classical.propDecidable _) 1 0
def fr251 (M M' : qM) : Prop := ∀ (k : Nat) (m s : Int), ¬ (k = 117 ∧ m = 0) → M' k m s = M k m s
theorem x_is_b {on : Int → Prop} {p : Int} : (x_is on p = 0 ↔ ¬ on p) ∧ (x_is on p = 0 ∨ x_is on p = 1) := by
  unfold x_is
  by_cases q : on p
  · rw [if_pos q]; exact ⟨⟨fun z => absurd z (by decide), fun z => absurd q z⟩, Or.inr rfl⟩
  · rw [if_neg q]; exact ⟨⟨fun _ => q, fun _ => rfl⟩, Or.inl rfl⟩
