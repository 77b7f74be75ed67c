/-! ===== the law's book ===== -/
theorem k_x_p {it : Int} (h : 0 ≤ it ∧ it < 18) : (0 ≤ k_x it ∧ k_x it < 30) ∧ k_x it / 10 = it / 6 ∧ k_x it % 10 = it % 6 ∧ 20 * k_x it = 200 * (it / 6) + 20 * (it % 6) := by
  unfold k_x
  omega
theorem k_x_c {c i : Int} (hc : 0 ≤ c ∧ c < 3) (hi : 0 ≤ i ∧ i < 6) : k_x (6 * c + i) = 10 * c + i := by
  unfold k_x
  omega
theorem k_30 {g : Int → Int} : p_sum g 30 = 0 + g 0 + g 1 + g 2 + g 3 + g 4 + g 5 + g 6 + g 7 + g 8 + g 9 + g 10 + g 11 + g 12 + g 13 + g 14 + g 15 + g 16 + g 17 + g 18 + g 19 + g 20 + g 21 + g 22 + g 23 + g 24 + g 25 + g 26 + g 27 + g 28 + g 29 := rfl
theorem k_18 {g : Int → Int} : p_sum (fun it => g (k_x it)) 18 = 0 + g 0 + g 1 + g 2 + g 3 + g 4 + g 5 + g 10 + g 11 + g 12 + g 13 + g 14 + g 15 + g 20 + g 21 + g 22 + g 23 + g 24 + g 25 := rfl
theorem k_sum18 {g : Int → Int} (h : ∀ x, 0 ≤ x → x < 30 → 6 ≤ x % 10 → g x = 0) : p_sum (fun it => g (k_x it)) 18 = p_sum g 30 := by
  rw [k_18, k_30]
  have h6 := h 6 (by decide) (by decide) (by decide)
  have h7 := h 7 (by decide) (by decide) (by decide)
  have h8 := h 8 (by decide) (by decide) (by decide)
  have h9 := h 9 (by decide) (by decide) (by decide)
  have h16 := h 16 (by decide) (by decide) (by decide)
  have h17 := h 17 (by decide) (by decide) (by decide)
  have h18 := h 18 (by decide) (by decide) (by decide)
  have h19 := h 19 (by decide) (by decide) (by decide)
  have h26 := h 26 (by decide) (by decide) (by decide)
  have h27 := h 27 (by decide) (by decide) (by decide)
  have h28 := h 28 (by decide) (by decide) (by decide)
  have h29 := h 29 (by decide) (by decide) (by decide)
  omega
def k_y (it w : Int) : Int := 20 * k_x it + w
/-- the book in the law's arrays -/
def k_bk (B : pT) (M : qM) : Prop := (∀ c, 0 ≤ c → c < 3 → M 77 0 c = B 0 c) ∧ (∀ it, 0 ≤ it → it < 18 → (0 ≤ M 65 0 it ∧ M 65 0 it ≤ 2147483647) ∧ M 65 0 it % 32 = B 3 (k_x it) ∧ M 65 0 it / 32 % 2 = B 1 (k_x it) ∧ (B 1 (k_x it) ≠ 0 → M 65 0 it / 64 % 4 = B 2 (k_x it))) ∧ (∀ it w, 0 ≤ it → it < 18 → 0 ≤ w → w < B 3 (k_x it) → k_cd M it w = B 6 (k_y it w) + 16 * B 4 (k_y it w) + 128 * B 5 (k_y it w)) ∧ M 76 0 1 = B 8 0 ∧ M 76 0 2 = B 8 1 ∧ M 76 0 3 = B 8 2
/-- how much the law lets into a book -/
def k_lim (B : pT) : Prop := (∀ c, 0 ≤ c → c < 3 → B 0 c ≤ 6 ∧ p_sum (fun i => if B 1 (10 * c + i) = 0 then B 3 (10 * c + i) else 1) (B 0 c) ≤ 16) ∧ (∀ x, 0 ≤ x → x < 30 → B 3 x ≤ 15) ∧ ∀ y, 0 ≤ y → y < 600 → c_there B y → B 4 y = 6 → B 6 y = 0
/-- the words ahead of an item -/
def k_O (B : pT) (it : Int) : Int := p_sum (fun i => B 3 (k_x i)) it
def k_off (B : pT) (M : qM) : Prop := ∀ it, 0 ≤ it → it ≤ 18 → M 67 0 it = k_O B it
def k_e (k : Nat) (B : pT) (W : Int → Int) (M : qM) : Prop := ∀ it w, 0 ≤ it → it < 18 → 0 ≤ w → w < B 3 (k_x it) → M k 0 (k_O B it + w) = W (k_y it w)
/-- widths by which words are wider -/
def k_W (B : pT) (W : Int → Int) : Prop := ∀ y, 0 ≤ y → y < 600 → c_there B y → (0 ≤ W y ∧ W y ≤ 8) ∧ (B 4 y ≠ 6 → W y ≤ 3)
section
variable {B : pT}
theorem k_there (hB2 : c_ok2 B) {it w : Int} (h : 0 ≤ it ∧ it < 18) (hw : 0 ≤ w ∧ w < B 3 (k_x it)) (hB : c_ok B) : (0 ≤ k_y it w ∧ k_y it w < 600) ∧ c_there B (k_y it w) ∧ k_y it w / 20 = k_x it ∧ k_y it w % 20 = w ∧ it % 6 < B 0 (it / 6) := by
  have x := k_x_p h
  have n := hB.2.1 (k_x it)
  have real : k_x it % 10 < B 0 (k_x it / 10) := Classical.byContradiction fun z => by
    have := (hB2 (k_x it) x.1.1 x.1.2 z).2
    omega
  have e1 : k_y it w / 20 = k_x it := by unfold k_y; omega
  have e2 : k_y it w % 20 = w := by unfold k_y; omega
  refine ⟨by unfold k_y; omega, ⟨?_, by rw [e1, e2]; exact hw.2⟩, e1, e2, ?_⟩
  · rw [show k_y it w / 20 % 10 = k_x it % 10 by rw [e1], show k_y it w / 200 = k_x it / 10 by omega]; exact real
  · rw [x.2.1, x.2.2.1] at real; exact real
theorem k_O_s {it : Int} (h : 0 ≤ it) : k_O B (it + 1) = k_O B it + B 3 (k_x it) := p_sum_s h
theorem k_O_b (hB : c_ok B) (hB2 : c_ok2 B) (hl : k_lim B) : ∀ it, 0 ≤ it → it ≤ 18 → 0 ≤ k_O B it ∧ k_O B it ≤ 48 := by
  have nn : ∀ x, 0 ≤ B 3 x := fun x => (hB.2.1 x).1
  have ch : ∀ c, 0 ≤ c → c < 3 → B 3 (10 * c) + B 3 (10 * c + 1) + B 3 (10 * c + 2) + B 3 (10 * c + 3) + B 3 (10 * c + 4) + B 3 (10 * c + 5) ≤ 16 := by
    intro c c0 c3
    have l := (hl.1 c c0 c3)
    have b := (hB.1 c c0 c3).1
    have le := p_sum_le (g := fun i => B 3 (10 * c + i)) (g' := fun i => if B 1 (10 * c + i) = 0 then B 3 (10 * c + i) else 1) (n := B 0 c) b.1 (fun i i0 i1 => by
      show B 3 (10 * c + i) ≤ if B 1 (10 * c + i) = 0 then B 3 (10 * c + i) else 1
      rcases hB.2.2.1 (10 * c + i) (by omega) (by omega) (by rw [show (10 * c + i) / 10 = c by omega]; omega) with q | q
      · rw [if_neg (by omega)]; omega
      · rw [if_pos q.1]; exact Int.le_refl _)
    have z : ∀ i, B 0 c ≤ i → i < 6 → B 3 (10 * c + i) = 0 := fun i a e => (hB2 (10 * c + i) (by omega) (by omega) (by rw [show (10 * c + i) / 10 = c by omega]; omega)).2
    have s6 : p_sum (fun i => B 3 (10 * c + i)) 6 = p_sum (fun i => B 3 (10 * c + i)) (B 0 c) := b_gap b.1 l.1 z
    have e6 : p_sum (fun i => B 3 (10 * c + i)) 6 = 0 + B 3 (10 * c + 0) + B 3 (10 * c + 1) + B 3 (10 * c + 2) + B 3 (10 * c + 3) + B 3 (10 * c + 4) + B 3 (10 * c + 5) := rfl
    rw [Int.add_zero] at e6
    omega
  have c0 := ch 0 (by decide) (by decide)
  have c1 := ch 1 (by decide) (by decide)
  have c2 := ch 2 (by decide) (by decide)
  intro it i0 i1
  have e18 : k_O B 18 ≤ 48 := by
    have e := k_18 (g := B 3)
    have : k_O B 18 = p_sum (fun it => B 3 (k_x it)) 18 := rfl
    have m1 : (10 : Int) * 0 = 0 := rfl
    have m2 : (10 : Int) * 1 = 10 := rfl
    have m3 : (10 : Int) * 2 = 20 := rfl
    rw [m1] at c0
    rw [m2] at c1
    rw [m3] at c2
    simp only [Int.zero_add] at c0
    have a1 : (10 : Int) + 1 = 11 := rfl
    have a2 : (10 : Int) + 2 = 12 := rfl
    have a3 : (10 : Int) + 3 = 13 := rfl
    have a4 : (10 : Int) + 4 = 14 := rfl
    have a5 : (10 : Int) + 5 = 15 := rfl
    have b1 : (20 : Int) + 1 = 21 := rfl
    have b2 : (20 : Int) + 2 = 22 := rfl
    have b3 : (20 : Int) + 3 = 23 := rfl
    have b4 : (20 : Int) + 4 = 24 := rfl
    have b5 : (20 : Int) + 5 = 25 := rfl
    rw [a1, a2, a3, a4, a5] at c1
    rw [b1, b2, b3, b4, b5] at c2
    rw [this, e]
    omega
  have mono : k_O B it ≤ k_O B 18 := p_sum_mono (g := fun i => B 3 (k_x i)) (fun x _ _ => nn _) i0 i1
  have pos : 0 ≤ k_O B it := p_sum_mono (g := fun i => B 3 (k_x i)) (a := 0) (fun x _ _ => nn _) (Int.le_refl _) i0
  omega
end
