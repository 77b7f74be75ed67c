/-! ===== FacingleafModel.print ===== -/
noncomputable def c_told (B : pT) (R : c_R) (y : Int) : Int := if c_K B y = 6 then b_text (c_K B) (B 5) (c_G B R) y else if c_K B y = 2 then b_num (c_K B) (c_G B R) (B 8 2) y else 0
theorem m_ed0_at {B : pT} {W : Int → Int} {ob : Prop} {Bo : pT} {Ro R : c_R} {p0 y : Int} {M : qM} (hB : c_ok B) (h : c_out B W ob Bo Ro p0 R) (hm : m_ed0 B R M) (hy : 0 ≤ y ∧ y < 600) (ht : c_there B y) : (0 ≤ M 93 0 y ∧ M 93 0 y < 70) ∧ M 92 0 (70 * (y / 200) + M 93 0 y) = c_G B R y := by
  obtain ⟨k, r, k1, k2, r1, r2, r3, k6⟩ := c_G_ex hB h hy ht
  have hc : 0 ≤ y / 200 ∧ y / 200 < 3 := by omega
  have ok := c_okB hB h.1 hc
  have t67 : p_SR (r_A B R (y / 200)) (B 0 (y / 200)) ≤ 67 := ok.2.2
  have N0 : 0 < B 0 (y / 200) := by have := ht.1; omega
  have cd := (hm.2 (y / 200) hc.1 hc.2).2 N0
  have pg := ((h.2 (y / 200) hc.1 hc.2).1.2 N0).2.2.1
  have row := (cd.1.2 r r1.1 r1.2).2.2.2.2 (y % 20) r3.1 r3.2
  rw [r2] at row
  unfold p_id at row
  rw [show 20 * (10 * (y / 200) + y / 20 % 10) + y % 20 = y by omega] at row
  have p := (cd.2.1 k k1.1 (by omega)).2 r k2.1 k2.2
  rw [row, p, k6]
  exact ⟨⟨r1.1, by omega⟩, by omega⟩
def fr217 (M M' : qM) : Prop := ∀ (k : Nat) (m s : Int), ¬ (m = 0 ∧ ((k = 11 ∧ (s = 0 ∨ (73 ≤ s ∧ s ≤ 76))) ∨ (118 ≤ k ∧ k ≤ 135))) → M' k m s = M k m s
/-- the printed copy of the memory N, in M -/
def m_cpy (B : pT) (R : c_R) (tot : Int) (N M : qM) : Prop := (M 11 0 73 = 1 ∧ M 11 0 74 = tot ∧ M 11 0 75 = B 8 0 ∧ M 11 0 76 = B 8 1) ∧ (∀ c, 0 ≤ c → c < 3 → M 118 0 c = N 114 0 c ∧ M 119 0 c = N 87 0 c) ∧ (∀ x, 0 ≤ x → x < 30 → M 120 0 x = N 68 0 x) ∧ (∀ s, 0 ≤ s → s < 210 → M 121 0 s = N 88 0 s ∧ M 122 0 s = N 90 0 s ∧ M 123 0 s = N 91 0 s) ∧ (∀ y, 0 ≤ y → y < 600 → M 124 0 y = c_told B R y) ∧ (∀ k, 0 ≤ k → k < 12 → M 125 0 k = N 95 0 k) ∧ (∀ k, 0 ≤ k → k < 36 → M 126 0 k = N 97 0 k ∧ M 127 0 k = N 98 0 k) ∧ ∀ (i : Nat) (p : Int), i ≤ 7 → 1 ≤ p → p ≤ tot → M (128 + i) 0 p = N (105 + i) 0 p
