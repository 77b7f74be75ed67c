/-! ===== the pure picture of a book ===== -/
theorem p_lined_ok {w : Int → Int} {n W lc lcost : Int} {le : Int → Int} (hn : 1 ≤ n) (h : p_lined w n W lc lcost le) : (1 ≤ lc ∧ lc ≤ n) ∧ (∀ s, 0 ≤ s → s < lc → s + 1 ≤ le s ∧ le s ≤ n) ∧ (∀ s, 0 ≤ s → s + 1 < lc → le s < le (s + 1)) ∧ le (lc - 1) = n := by
  obtain ⟨C, L, E, ⟨t1, t2, hE⟩, _, ⟨h1, h2, h3, h4⟩⟩ := h
  have l1 : 1 ≤ lc := Classical.byContradiction fun z => by
    have : lc.toNat = 0 := by omega
    rw [this] at h2
    have : (0 : Int) = n := h2
    omega
  have le' : ∀ s : Int, 0 ≤ s → s < lc → le s = p_end E (s.toNat + 1) := fun s a b => by
    have := h4 s.toNat (by omega)
    rw [show ((s.toNat : Nat) : Int) = s by omega] at this
    exact this
  have lt : ∀ s : Nat, (s : Int) ≤ lc → (s : Int) ≤ p_end E s ∧ p_end E s ≤ max n 0 := fun s hs => p_end_lt hE s (fun t ht => h3 t (by omega))
  refine ⟨⟨l1, h1.2⟩, fun s a b => ?_, fun s a b => ?_, ?_⟩
  · rw [le' s a b]
    have := lt (s.toNat + 1) (by omega)
    omega
  · rw [le' s a (by omega), le' (s + 1) (by omega) b, show (s + 1).toNat = s.toNat + 1 by omega]
    have l0 := lt (s.toNat + 1) (by omega)
    have b0 := h3 (s.toNat + 1) (by omega)
    have := (hE (p_end E (s.toNat + 1)) (by omega) b0).1.1
    exact this
  · rw [le' (lc - 1) (by omega) (by omega), show (lc - 1).toNat + 1 = lc.toNat by omega]
    exact h2
/-- a chapter of the book with its lines -/
def c_A (B : pT) (L : Int → Int) (E : Int → Int → Int) (c : Int) : pA := fun k i w => if 0 ≤ i ∧ i < 10 then (if k = 0 then B 1 (10 * c + i) else if k = 1 then B 2 (10 * c + i) else if k = 2 then L (10 * c + i) else if k = 3 then E (10 * c + i) w else if k = 4 then B 4 (20 * (10 * c + i) + w) else if k = 5 then B 5 (20 * (10 * c + i) + w) else B 3 (10 * c + i)) else 0
theorem c_A_v {B : pT} {L : Int → Int} {E : Int → Int → Int} {c i w : Int} (hi : 0 ≤ i ∧ i < 10) : c_A B L E c 0 i w = B 1 (10 * c + i) ∧ c_A B L E c 1 i w = B 2 (10 * c + i) ∧ c_A B L E c 2 i w = L (10 * c + i) ∧ c_A B L E c 3 i w = E (10 * c + i) w ∧ c_A B L E c 4 i w = B 4 (20 * (10 * c + i) + w) ∧ c_A B L E c 5 i w = B 5 (20 * (10 * c + i) + w) ∧ c_A B L E c 6 i w = B 3 (10 * c + i) := by
  unfold c_A
  simp only [if_pos hi]
  exact ⟨rfl, rfl, rfl, rfl, rfl, rfl, rfl⟩
/-- the words of the book: their kind, 0 where there is none -/
def c_K (B : pT) (y : Int) : Int := if y / 20 % 10 < B 0 (y / 200) ∧ y % 20 < B 3 (y / 20) then B 4 y else 0
def c_there (B : pT) (y : Int) : Prop := y / 20 % 10 < B 0 (y / 200) ∧ y % 20 < B 3 (y / 20)
def c_A0 (B : pT) (c : Int) : pA := c_A B (fun _ => 0) (fun _ _ => 0) c
/-- the book is as it can be -/
def c_ok (B : pT) : Prop := (∀ c, 0 ≤ c → c < 3 → (0 ≤ B 0 c ∧ B 0 c ≤ 10) ∧ p_SF (c_A0 B c) (B 0 c) ≤ 4 ∧ p_SN (c_A0 B c) (B 0 c) ≤ 12 ∧ p_sum (fun i => B 3 (10 * c + i)) (B 0 c) ≤ 60) ∧ (∀ x, 0 ≤ B 3 x ∧ B 3 x ≤ 20) ∧ (∀ x, 0 ≤ x → x < 30 → x % 10 < B 0 (x / 10) → (B 1 x = 1 ∧ B 3 x = 0 ∧ 1 ≤ B 2 x ∧ B 2 x ≤ 3) ∨ (B 1 x = 0 ∧ 1 ≤ B 3 x)) ∧ (∀ y, 0 ≤ B 5 y ∧ B 5 y ≤ 9) ∧ (∀ y, 0 ≤ y → y < 600 → c_there B y → (0 ≤ B 4 y ∧ B 4 y ≤ 6) ∧ (B 4 y = 3 → 2 ≤ B 5 y ∧ B 5 y ≤ 5) ∧ (B 4 y = 2 → 1 ≤ B 5 y ∧ B 5 y ≤ 4) ∧ (B 4 y = 5 → 1 ≤ B 5 y ∧ B 5 y ≤ 3)) ∧ (∀ y, 0 ≤ B 6 y ∧ B 6 y ≤ 8) ∧ (8 ≤ B 8 0 ∧ B 8 0 ≤ 30) ∧ (8 ≤ B 8 1 ∧ B 8 1 ≤ 14) ∧ (B 8 2 = 0 ∨ B 8 2 = 1)
/-- the lines of a round that takes W -/
def c_lines (B : pT) (W L C : Int → Int) (E : Int → Int → Int) : Prop := ∀ x, 0 ≤ x → x < 30 → x % 10 < B 0 (x / 10) → (B 1 x = 0 → p_lined (fun j => B 6 (20 * x + j) + W (20 * x + j)) (B 3 x) (B 8 0) (L x) (C x) (E x)) ∧ (B 1 x ≠ 0 → L x = 1 ∧ C x = 0)
theorem c_okB {B : pT} {W L C : Int → Int} {E : Int → Int → Int} {c : Int} (hB : c_ok B) (hL : c_lines B W L C E) (hc : 0 ≤ c ∧ c < 3) : p_okB (c_A B L E c) (B 0 c) := by
  obtain ⟨b1, b2, b3, b4, b5, b6, b7, b8, b9⟩ := hB
  obtain ⟨n1, n2, n3, n4⟩ := b1 c hc.1 hc.2
  have itm : ∀ i, 0 ≤ i → i < B 0 c → p_okI (c_A B L E c) i ∧ (1 ≤ L (10 * c + i) ∧ (B 1 (10 * c + i) = 0 → L (10 * c + i) ≤ B 3 (10 * c + i)) ∧ (B 1 (10 * c + i) ≠ 0 → L (10 * c + i) = 1)) := fun i i0 i1 => by
    have v := fun w => c_A_v (B := B) (L := L) (E := E) (c := c) (w := w) (i := i) ⟨i0, by omega⟩
    have real : (10 * c + i) % 10 < B 0 ((10 * c + i) / 10) := by rw [show (10 * c + i) / 10 = c by omega]; omega
    have hl := hL (10 * c + i) (by omega) (by omega) real
    unfold p_okI
    rw [(v 0).1, (v 0).2.1, (v 0).2.2.1, (v 0).2.2.2.2.2.2]
    have b3' := b2 (10 * c + i)
    rcases b3 (10 * c + i) (by omega) (by omega) real with ⟨k1, k2, k3⟩ | ⟨k1, k2⟩
    · have := (hl.2 (by omega)).1
      exact ⟨⟨fun w => by rw [(v w).2.2.2.2.2.1]; exact b4 _, Or.inl ⟨k1, this, k2, k3⟩⟩, by omega, fun q => by omega, fun _ => this⟩
    · obtain ⟨o1, o2, o3, o4⟩ := p_lined_ok k2 (hl.1 k1)
      refine ⟨⟨fun w => by rw [(v w).2.2.2.2.2.1]; exact b4 _, Or.inr ⟨k1, ⟨k2, b3'.2⟩, o1, fun s a b => ?_, fun s a b => ?_, ?_⟩⟩, o1.1, fun _ => o1.2, fun q => by omega⟩
      · rw [(v s).2.2.2.1]; exact o2 s a b
      · rw [(v s).2.2.2.1, (v (s + 1)).2.2.2.1]; exact o3 s a b
      · rw [(v _).2.2.2.1]; exact o4
  have rows : p_SR (c_A B L E c) (B 0 c) ≤ 67 := by
    have main : ∀ x : Int, 0 ≤ x → x ≤ B 0 c → (p_SR (c_A B L E c) x ≤ p_sum (fun i => B 3 (10 * c + i)) x + p_sum (fun i => if B 1 (10 * c + i) = 0 then 0 else 1) x ∧ p_sum (fun i => B 3 (10 * c + i)) x ≤ 20 * (x - p_sum (fun i => if B 1 (10 * c + i) = 0 then 0 else 1) x) ∧ 0 ≤ p_sum (fun i => if B 1 (10 * c + i) = 0 then 0 else 1) x) := fun x x0 x1 => by
      refine q_upto (P := fun z => 0 ≤ z → z ≤ x → (p_SR (c_A B L E c) z ≤ p_sum (fun i => B 3 (10 * c + i)) z + p_sum (fun i => if B 1 (10 * c + i) = 0 then 0 else 1) z ∧ p_sum (fun i => B 3 (10 * c + i)) z ≤ 20 * (z - p_sum (fun i => if B 1 (10 * c + i) = 0 then 0 else 1) z) ∧ 0 ≤ p_sum (fun i => if B 1 (10 * c + i) = 0 then 0 else 1) z) → (p_SR (c_A B L E c) x ≤ p_sum (fun i => B 3 (10 * c + i)) x + p_sum (fun i => if B 1 (10 * c + i) = 0 then 0 else 1) x ∧ p_sum (fun i => B 3 (10 * c + i)) x ≤ 20 * (x - p_sum (fun i => if B 1 (10 * c + i) = 0 then 0 else 1) x) ∧ 0 ≤ p_sum (fun i => if B 1 (10 * c + i) = 0 then 0 else 1) x)) (a := 0) (b := x) x0 (fun _ _ q => q) (fun z z0 z1 ih _ _ q => ih (by omega) (by omega) ?_) (Int.le_refl _) (by omega) ⟨by rw [p_sum_0, p_sum_0]; exact Int.le_refl _, by rw [p_sum_0, p_sum_0]; omega, by rw [p_sum_0]; omega⟩
      have s1 := p_SR_s (A := c_A B L E c) z0
      have s2 := p_sum_s (g := fun i => B 3 (10 * c + i)) z0
      have s3 := p_sum_s (g := fun i => if B 1 (10 * c + i) = 0 then 0 else 1) z0
      have it := (itm z z0 (by omega)).2
      have v := (c_A_v (B := B) (L := L) (E := E) (c := c) (w := 0) (i := z) ⟨z0, by omega⟩).2.2.1
      have b3' := b2 (10 * c + z)
      have real : (10 * c + z) % 10 < B 0 ((10 * c + z) / 10) := by rw [show (10 * c + z) / 10 = c by omega]; omega
      have kk := b3 (10 * c + z) (by omega) (by omega) real
      by_cases q0 : B 1 (10 * c + z) = 0
      · simp only [q0, if_true] at s3
        have := it.2.1 q0
        have s2' : p_sum (fun i => B 3 (10 * c + i)) (z + 1) = p_sum (fun i => B 3 (10 * c + i)) z + B 3 (10 * c + z) := s2
        omega
      · have s3' : p_sum (fun i => if B 1 (10 * c + i) = 0 then 0 else 1) (z + 1) = p_sum (fun i => if B 1 (10 * c + i) = 0 then 0 else 1) z + 1 := by rw [s3]; simp only [q0, if_false]
        have := it.2.2 q0
        have s2' : p_sum (fun i => B 3 (10 * c + i)) (z + 1) = p_sum (fun i => B 3 (10 * c + i)) z + B 3 (10 * c + z) := s2
        omega
    have := main (B 0 c) (by omega) (Int.le_refl _)
    omega
  refine ⟨⟨n1, fun i a b => (itm i a b).1, n2, n3, by omega⟩, fun i w i0 i1 w0 w1 => ?_, rows⟩
  have v := c_A_v (B := B) (L := L) (E := E) (c := c) (w := w) (i := i) ⟨i0, by omega⟩
  have v0 := c_A_v (B := B) (L := L) (E := E) (c := c) (w := 0) (i := i) ⟨i0, by omega⟩
  rw [v.2.2.2.2.1, v.2.2.2.2.2.1]
  rw [v0.2.2.2.2.2.2] at w1
  have b2' := b2 (10 * c + i)
  have := b5 (20 * (10 * c + i) + w) (by omega) (by omega) ⟨by rw [show (20 * (10 * c + i) + w) / 20 % 10 = i by omega, show (20 * (10 * c + i) + w) / 200 = c by omega]; exact i1, by rw [show (20 * (10 * c + i) + w) / 20 = 10 * c + i by omega]; omega⟩
  exact ⟨this.2.1, this.2.2.1⟩
