/-! ===== margins of the law: bounds, codes of words ===== -/
theorem k_mg16 {B : pT} (hB : c_ok B) (hl : k_lim B) {c : Int} (hc : 0 ≤ c ∧ c < 3) : mg_ct B c (200 * (c + 1)) ≤ 16 := by
  have hB' := hB
  obtain ⟨b1, b2, _⟩ := hB
  let g : Int → Int := fun y => @ite Int (c_there B y) (Classical.propDecidable _) 1 0
  have item : ∀ i, 0 ≤ i → i < 10 → p_sum g (20 * (10 * c + i) + 20) = p_sum g (20 * (10 * c + i)) + (if i < B 0 c then B 3 (10 * c + i) else 0) := fun i i0 i1 => by
    rw [p_sum_sh (by omega) (by decide)]
    have b := b2 (10 * c + i)
    have th : ∀ k, 0 ≤ k → k < 20 → (c_there B (20 * (10 * c + i) + k) ↔ i < B 0 c ∧ k < B 3 (10 * c + i)) := fun k a z => by
      unfold c_there
      rw [show (20 * (10 * c + i) + k) / 20 = 10 * c + i by omega, show (20 * (10 * c + i) + k) / 200 = c by omega, show (20 * (10 * c + i) + k) % 20 = k by omega, show (10 * c + i) % 10 = i by omega]
    rw [p_sum_th (g := fun k => g (20 * (10 * c + i) + k)) (t := if i < B 0 c then B 3 (10 * c + i) else 0) (fun k k0 k1 => ?_) (fun k k0 k1 => ?_) (by split <;> omega)]
    · show @ite Int (c_there B _) (Classical.propDecidable _) 1 0 = 1
      have : i < B 0 c := Classical.byContradiction fun z => by rw [if_neg z] at k1; omega
      rw [if_pos this] at k1
      rw [if_pos ((th k k0 (by omega)).mpr ⟨this, k1⟩)]
    · show @ite Int (c_there B _) (Classical.propDecidable _) 1 0 = 0
      rw [if_neg (fun z => by
        have zz := (th k (by split at k0 <;> omega) k1).mp z
        rw [if_pos zz.1] at k0
        omega)]
  have bc := b1 c hc.1 hc.2
  have main : ∀ i : Int, 0 ≤ i → i ≤ 10 → p_sum g (200 * c + 20 * i) = p_sum g (200 * c) + p_sum (fun i => if i < B 0 c then B 3 (10 * c + i) else 0) i := fun i i0 i1 => by
    refine q_upto (P := fun x => 0 ≤ x → x ≤ i → p_sum g (200 * c + 20 * x) = p_sum g (200 * c) + p_sum (fun i => if i < B 0 c then B 3 (10 * c + i) else 0) x → p_sum g (200 * c + 20 * i) = p_sum g (200 * c) + p_sum (fun i => if i < B 0 c then B 3 (10 * c + i) else 0) i) i0 (fun _ _ q => q) (fun x x0 x1 ih _ _ q => ih (by omega) (by omega) ?_) (Int.le_refl _) i0 (by rw [p_sum_0]; simp)
    have it := item x x0 (by omega)
    have s := p_sum_s (g := fun i => if i < B 0 c then B 3 (10 * c + i) else 0) x0
    rw [show 20 * (10 * c + x) + 20 = 200 * c + 20 * (x + 1) by omega, show 20 * (10 * c + x) = 200 * c + 20 * x by omega] at it
    rw [it, q, s]
    show p_sum g (200 * c) + p_sum (fun i => if i < B 0 c then B 3 (10 * c + i) else 0) x + (if x < B 0 c then B 3 (10 * c + x) else 0) = p_sum g (200 * c) + (p_sum (fun i => if i < B 0 c then B 3 (10 * c + i) else 0) x + (if x < B 0 c then B 3 (10 * c + x) else 0))
    omega
  have m := main 10 (by decide) (by decide)
  rw [show 200 * c + 20 * 10 = 200 * (c + 1) by omega] at m
  have gp : p_sum (fun i => if i < B 0 c then B 3 (10 * c + i) else 0) 10 = p_sum (fun i => if i < B 0 c then B 3 (10 * c + i) else 0) (B 0 c) := b_gap bc.1.1 bc.1.2 (fun y a b => if_neg (by omega))
  have cg : p_sum (fun i => if i < B 0 c then B 3 (10 * c + i) else 0) (B 0 c) = p_sum (fun i => B 3 (10 * c + i)) (B 0 c) := p_sum_cg bc.1.1 (fun k a b => if_pos b)
  have e : mg_ct B c (200 * (c + 1)) = p_sum g (200 * (c + 1)) - p_sum g (200 * c) := rfl
  rw [e]
  have bl := hl.1 c hc.1 hc.2
  have le := p_sum_le (g := fun i => B 3 (10 * c + i)) (g' := fun i => if B 1 (10 * c + i) = 0 then B 3 (10 * c + i) else 1) (n := B 0 c) bc.1.1 (fun i i0 i1 => by
    show B 3 (10 * c + i) ≤ if B 1 (10 * c + i) = 0 then B 3 (10 * c + i) else 1
    rcases hB'.2.2.1 (10 * c + i) (by omega) (by omega) (by rw [show (10 * c + i) / 10 = c by omega, show (10 * c + i) % 10 = i by omega]; exact i1) with q | q
    · rw [if_neg (by omega)]; omega
    · rw [if_pos q.1]; exact Int.le_refl _)
  omega
/-- a word as the law notes it -/
def k_wc (y : Int) : Int := 16 * (6 * (y / 200) + y / 20 % 10) + y % 20
theorem k_wc_p {B : pT} {c y : Int} (hB : c_ok B) (hl : k_lim B) (hc : 0 ≤ c ∧ c < 3) (hy : 200 * c ≤ y ∧ y < 200 * c + 200) (ht : c_there B y) : (0 ≤ k_wc y ∧ k_wc y < 288) ∧ k_wc y / 16 = 6 * c + y / 20 % 10 ∧ k_wc y % 16 = y % 20 ∧ k_wc y / 16 % 6 = y / 20 % 10 ∧ (0 ≤ y / 20 % 10 ∧ y / 20 % 10 < B 0 c) ∧ (0 ≤ y % 20 ∧ y % 20 < B 3 (10 * c + y / 20 % 10)) ∧ y = 200 * c + 20 * (y / 20 % 10) + y % 20 := by
  have ec : y / 200 = c := by omega
  have t1 := ht.1
  have t2 := ht.2
  rw [ec] at t1
  have l6 := (hl.1 c hc.1 hc.2).1
  have ex : y / 20 = 10 * c + y / 20 % 10 := by omega
  rw [ex] at t2
  have l15 := hl.2.1 (10 * c + y / 20 % 10) (by omega) (by omega)
  have e3 : (10 * c + y / 20 % 10) % 10 = y / 20 % 10 := by omega
  unfold k_wc
  rw [ec]
  omega
/-- the place that the law tries is the class' -/
theorem k_at_b {w e dp hi : Int} (h : 0 ≤ e) : b_at w e dp hi = if (if w < e then e else w) + hi ≤ dp then (if w < e then e else w) else dp - hi := by
  unfold b_at
  generalize (if w < e then e else w) = v
  by_cases q : v ≤ dp - hi
  · rw [if_pos q, if_pos (by omega)]
  · rw [if_neg q, if_neg (by omega)]
theorem k_at_0 {e dp hi : Int} (h : 0 ≤ e) : b_at 0 e dp hi = if e + hi ≤ dp then e else dp - hi := by
  rw [k_at_b h]
  have : (if (0 : Int) < e then e else 0) = e := by split <;> omega
  rw [this]
