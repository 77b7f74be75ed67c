/-! ===== rows and words, in their order ===== -/
theorem p_row_dec {A : pA} {cnt r : Int} (hA : p_okA A cnt) (h : 0 ≤ r ∧ r < p_SR A cnt) : ∃ i s, (0 ≤ i ∧ i < cnt) ∧ (0 ≤ s ∧ s < A 2 i 0) ∧ r = p_SR A i + s ∧ p_ri A r = i ∧ p_rl A r = s := by
  have key : ∀ n : Nat, (n : Int) ≤ cnt → r < p_SR A n → ∃ i s, (0 ≤ i ∧ i < cnt) ∧ (0 ≤ s ∧ s < A 2 i 0) ∧ r = p_SR A i + s := by
    intro n
    induction n with
    | zero => intro _ hr; have : p_SR A ((0 : Nat) : Int) = 0 := rfl; omega
    | succ n ih =>
      intro hn hr
      by_cases hq : r < p_SR A n
      · exact ih (by omega) hq
      · have := p_SR_s (A := A) (i := (n : Int)) (by omega)
        rw [show ((n + 1 : Nat) : Int) = (n : Int) + 1 by omega] at hr
        exact ⟨n, r - p_SR A n, ⟨by omega, by omega⟩, ⟨by omega, by omega⟩, by omega⟩
  obtain ⟨i, s, h1, h2, h3⟩ := key cnt.toNat (by have := hA.1; omega) (by rw [show ((cnt.toNat : Nat) : Int) = cnt by have := hA.1; omega]; exact h.2)
  have := p_rc_at hA i s h1.1 h1.2 h2.1 h2.2
  rw [← h3] at this
  exact ⟨i, s, h1, h2, h3, by unfold p_ri; rw [this.1], by unfold p_rl; rw [this.1]⟩
theorem p_row_lt {A : pA} {cnt q r : Int} (hA : p_okA A cnt) (hq : 0 ≤ q) (hqr : q < r) (hr : r < p_SR A cnt) : p_ri A q < p_ri A r ∨ (p_ri A q = p_ri A r ∧ p_rl A q < p_rl A r ∧ p_to A q ≤ p_fr A r) := by
  obtain ⟨i, s, a1, a2, a3, a4, a5⟩ := p_row_dec hA ⟨hq, by omega⟩
  obtain ⟨i', s', b1, b2, b3, b4, b5⟩ := p_row_dec hA ⟨by omega, hr⟩
  rw [a4, b4, a5, b5]
  rcases Int.lt_trichotomy i i' with k | k | k
  · exact Or.inl k
  · subst k
    right
    refine ⟨rfl, by omega, ?_⟩
    rcases (hA.2.1 i a1.1 a1.2).2 with ⟨k1, k2, k3, k4⟩ | ⟨k1, k2, k3, k4, k5, k6⟩
    · omega
    · unfold p_to p_fr
      rw [a4, b4, a5, b5, if_pos k1, if_pos k1, if_neg (by omega)]
      refine q_dnto (P := fun x => x < A 2 i 0 → A 3 i s ≤ A 3 i x) (a := s) (b := s' - 1) (by omega) (fun _ => Int.le_refl _) (fun x x0 x1 ih x2 => ?_) (by omega)
      have e1 := ih (by omega)
      have e2 := k5 (x - 1) (by omega) (by omega)
      rw [show x - 1 + 1 = x by omega] at e2
      omega
  · exfalso
    have e1 := p_SR_le (A := A) (cnt := i) (i := i' + 1) ⟨by have := hA.1; omega, fun x x0 x1 => hA.2.1 x x0 (by omega), by
      have := p_FB_end hA (i := i) (w := 0) ⟨by omega, by omega⟩ ⟨by omega, (p_okA_6 hA a1).1⟩
      have e : p_FB A i 0 = p_SF A i := by unfold p_FB p_PF; rw [p_sum_0]; omega
      omega, by
      have := p_FB_end hA (i := i) (w := 0) ⟨by omega, by omega⟩ ⟨by omega, (p_okA_6 hA a1).1⟩
      have e : p_NB A i 0 = p_SN A i := by unfold p_NB p_PN; rw [p_sum_0]; omega
      omega, by have := p_SR_le hA (i := i) ⟨by omega, by omega⟩; have := hA.2.2.2.2; omega⟩ ⟨by omega, by omega⟩
    have e2 := p_SR_s (A := A) (i := i') b1.1
    omega
theorem p_row_in {A : pA} {cnt r : Int} (hA : p_okA A cnt) (h : 0 ≤ r ∧ r < p_SR A cnt) : (0 ≤ p_ri A r ∧ p_ri A r < cnt) ∧ (0 ≤ p_rl A r ∧ p_rl A r < A 2 (p_ri A r) 0) ∧ 0 ≤ p_fr A r ∧ p_fr A r ≤ p_to A r ∧ p_to A r ≤ A 6 (p_ri A r) 0 ∧ A 6 (p_ri A r) 0 ≤ 20 := by
  obtain ⟨i, s, a1, a2, a3, a4, a5⟩ := p_row_dec hA h
  have h1 : 0 ≤ p_ri A r ∧ p_ri A r < cnt := by rw [a4]; exact a1
  have h2 : 0 ≤ p_rl A r ∧ p_rl A r < A 2 (p_ri A r) 0 := by rw [a4, a5]; exact a2
  have h3 := p_fr_to hA h1 h2
  have h4 := p_okA_6 hA h1
  exact ⟨h1, h2, h3.1, h3.2.1, h3.2.2.1, by omega⟩
