/-! ===== paragraph ===== -/
theorem y_cz_f {c x n : Int} {k : Nat} {m s : Int} (h : ¬ y_cz c x n k m s) : ¬ (k = 1 ∧ m = c ∧ s = 1) ∧ ¬ (k = 64 ∧ m = 0 ∧ s = c) ∧ ¬ (k = 10 ∧ m = 0 ∧ (s = 13 ∨ s = 14)) ∧ ¬ (k = 11 ∧ m = 0 ∧ (s = 12 ∨ s = 22)) ∧ ¬ (k = 5 ∧ m = 0 ∧ s = 2) ∧ ¬ (k = 5 ∧ m = 1 + x ∧ ((0 ≤ s ∧ s ≤ 3) ∨ s = 8 ∨ s = 10)) ∧ ¬ (k = 35 ∧ m = 1 + x ∧ 0 ≤ s ∧ s < 20) ∧ ¬ (32 ≤ k ∧ k ≤ 34 ∧ m = 1 + x ∧ 0 ≤ s ∧ s < n) ∧ ¬ (69 ≤ k ∧ k ≤ 71 ∧ m = 0 ∧ 20 * x ≤ s ∧ s < 20 * x + n) ∧ ¬ (((65 ≤ k ∧ k ≤ 68) ∨ k = 79) ∧ m = 0 ∧ s = x) := by
  unfold y_cz at h
  exact ⟨fun z => h (Or.inl z), fun z => h (Or.inr (Or.inl z)), fun z => h (Or.inr (Or.inr (Or.inl z))), fun z => h (Or.inr (Or.inr (Or.inr (Or.inl z)))), fun z => h (Or.inr (Or.inr (Or.inr (Or.inr (Or.inl z))))), fun z => h (Or.inr (Or.inr (Or.inr (Or.inr (Or.inr (Or.inl z)))))), fun z => h (Or.inr (Or.inr (Or.inr (Or.inr (Or.inr (Or.inr (Or.inl z))))))), fun z => h (Or.inr (Or.inr (Or.inr (Or.inr (Or.inr (Or.inr (Or.inr (Or.inl z)))))))), fun z => h (Or.inr (Or.inr (Or.inr (Or.inr (Or.inr (Or.inr (Or.inr (Or.inr (Or.inl z))))))))), fun z => h (Or.inr (Or.inr (Or.inr (Or.inr (Or.inr (Or.inr (Or.inr (Or.inr (Or.inr z))))))))) ⟩
theorem y_SF {B : pT} {c m : Int} (hm : 0 ≤ m ∧ m ≤ 10) (hn : ∀ x, 0 ≤ B 3 x ∧ B 3 x ≤ 20) : p_SF (c_A0 B c) m = p_sum (fun j => y_item B 3 (10 * c + j)) m := by
  refine p_sum_cg hm.1 (fun j j0 j1 => ?_)
  have v := fun w => c_A_v (B := B) (L := fun _ => 0) (E := fun _ _ => 0) (c := c) (i := j) (w := w) ⟨j0, by omega⟩
  show p_PF (c_A0 B c) j (c_A0 B c 6 j 0) = p_sum _ (B 3 (10 * c + j))
  unfold c_A0
  rw [(v 0).2.2.2.2.2.2]
  refine p_sum_cg (hn _).1 (fun w w0 w1 => ?_)
  show (if c_A _ _ _ c 4 j w = 3 then (1 : Int) else 0) = y_wg _ _ 3 w
  rw [(v w).2.2.2.2.1]
  rfl
theorem y_SN {B : pT} {c m : Int} (hm : 0 ≤ m ∧ m ≤ 10) (hn : ∀ x, 0 ≤ B 3 x ∧ B 3 x ≤ 20) : p_SN (c_A0 B c) m = p_sum (fun j => y_item B 2 (10 * c + j)) m := by
  refine p_sum_cg hm.1 (fun j j0 j1 => ?_)
  have v := fun w => c_A_v (B := B) (L := fun _ => 0) (E := fun _ _ => 0) (c := c) (i := j) (w := w) ⟨j0, by omega⟩
  show p_PN (c_A0 B c) j (c_A0 B c 6 j 0) = p_sum _ (B 3 (10 * c + j))
  unfold c_A0
  rw [(v 0).2.2.2.2.2.2]
  refine p_sum_cg (hn _).1 (fun w w0 w1 => ?_)
  show (if c_A _ _ _ c 4 j w = 2 then c_A _ _ _ c 5 j w else 0) = y_wg _ _ 2 w
  rw [(v w).2.2.2.2.1, (v w).2.2.2.2.2.1]
  rfl
theorem y_ws_1 {K V : Int → Int} {n : Int} (hn : 0 ≤ n) : y_ws K V (-1) n = n := by
  refine q_upto (P := fun z => 0 ≤ z → p_sum (y_wg K V (-1)) z = z → p_sum (y_wg K V (-1)) n = n) hn (fun _ q => q) (fun z z0 z1 ih _ q => ih (by omega) ?_) (Int.le_refl _) p_sum_0
  rw [p_sum_s z0, q]
  unfold y_wg
  rw [if_pos rfl]
theorem p_sum_one {g g' : Int → Int} {i a n : Int} (hi : 0 ≤ i ∧ i < n) (h : ∀ j, 0 ≤ j → j < n → j ≠ i → g' j = g j) (h1 : g' i = a) (h2 : g i = 0) : p_sum g' n = p_sum g n + a := by
  refine q_upto (P := fun z => 0 ≤ z → p_sum g' z = p_sum g z + (if i < z then a else 0) → p_sum g' n = p_sum g n + a) (a := 0) (b := n) (by omega) (fun _ q => by rw [if_pos hi.2] at q; exact q) (fun z z0 z1 ih _ q => ih (by omega) ?_) (Int.le_refl _) (by rw [p_sum_0, p_sum_0, if_neg (by omega)]; rfl)
  rw [p_sum_s z0, p_sum_s z0, q]
  by_cases e : z = i
  · rw [e, h1, h2, if_neg (by omega), if_pos (by omega)]
    try omega
  · rw [h z z0 z1 e]
    by_cases e2 : i < z
    · rw [if_pos e2, if_pos (by omega)]; omega
    · rw [if_neg e2, if_neg (by omega)]; omega
theorem y_np_sum {B : pT} {c i x n0 hd nd n sr but t : Int} {W K V : Int → Int} (hi : 0 ≤ i ∧ i < 10) (hx : x = 10 * c + i) (hn0 : (n0 = i + 1 ∧ i = B 0 c ∧ but = -1) ∨ (n0 = B 0 c ∧ i < B 0 c ∧ but = i)) (n10 : 0 ≤ B 0 c ∧ B 0 c ≤ 10) (hn : 0 ≤ n ∧ n ≤ 20) (h3 : ∀ x, 0 ≤ B 3 x ∧ B 3 x ≤ 20) : p_sum (fun j => y_item (y_np B c x n0 hd nd n sr W K V) t (10 * c + j)) n0 = y_cs B t c but + y_ws K V t n := by
  have it : ∀ j, j ≠ i → y_item (y_np B c x n0 hd nd n sr W K V) t (10 * c + j) = y_item B t (10 * c + j) := fun j e => by
    have q := y_np_o (B := B) (c := c) (x := x) (n0 := n0) (hd := hd) (nd := nd) (sr := sr) (W := W) (K := K) (V := V) (z := 10 * c + j) hn.2 (by omega)
    have nb := h3 (10 * c + j)
    unfold y_item
    rw [q.2.2.1]
    refine y_ws_cg nb.1 (fun w w0 w1 => ?_)
    have z := q.2.2.2.2 (20 * (10 * c + j) + w) (by omega)
    exact ⟨z.1, z.2.1⟩
  have itx : y_item (y_np B c x n0 hd nd n sr W K V) t (10 * c + i) = y_ws K V t n := by
    unfold y_item
    rw [y_np_3, if_pos hx.symm]
    refine y_ws_cg hn.1 (fun w w0 w1 => ?_)
    have z := y_np_w (B := B) (c := c) (x := x) (n0 := n0) (hd := hd) (nd := nd) (n := n) (sr := sr) (W := W) (K := K) (V := V) (y := 20 * (10 * c + i) + w) (by omega) (by omega)
    rw [show (20 * (10 * c + i) + w) % 20 = w by omega] at z
    exact ⟨z.1, z.2.1⟩
  rcases hn0 with ⟨e1, e2, e3⟩ | ⟨e1, e2, e3⟩
  · subst e1
    rw [p_sum_s hi.1, itx]
    have e : p_sum (fun j => y_item (y_np B c x (i + 1) hd nd n sr W K V) t (10 * c + j)) i = y_cs B t c but := by
      show _ = p_sum (y_cg B t c but) (B 0 c)
      rw [← e2]
      refine p_sum_cg hi.1 (fun j j0 j1 => ?_)
      show _ = y_cg B t c but j
      unfold y_cg
      rw [if_neg (by omega), ← it j (by omega)]
    rw [e]
  · subst e1
    refine p_sum_one (i := i) ⟨hi.1, e2⟩ (fun j j0 j1 e => ?_) itx ?_
    · show _ = y_cg B t c but j
      unfold y_cg
      rw [if_neg (by omega)]
      exact it j e
    · unfold y_cg
      rw [if_pos (by omega)]
theorem y_np_lim {B : pT} {c i x n0 hd nd n sr but : Int} {W K V : Int → Int} (hi : 0 ≤ i ∧ i < 10) (hx : x = 10 * c + i) (hn0 : (n0 = i + 1 ∧ i = B 0 c ∧ but = -1) ∨ (n0 = B 0 c ∧ i < B 0 c ∧ but = i)) (n10 : 0 ≤ B 0 c ∧ B 0 c ≤ 10) (hn : 0 ≤ n ∧ n ≤ 20) (h3 : ∀ x, 0 ≤ B 3 x ∧ B 3 x ≤ 20) (l3 : y_cs B 3 c but + y_ws K V 3 n ≤ 4) (l2 : y_cs B 2 c but + y_ws K V 2 n ≤ 12) (l1 : y_cs B (-1) c but + n ≤ 60) : p_SF (c_A0 (y_np B c x n0 hd nd n sr W K V) c) n0 ≤ 4 ∧ p_SN (c_A0 (y_np B c x n0 hd nd n sr W K V) c) n0 ≤ 12 ∧ p_sum (fun i => y_np B c x n0 hd nd n sr W K V 3 (10 * c + i)) n0 ≤ 60 := by
  have s := fun t => y_np_sum (t := t) (hd := hd) (nd := nd) (sr := sr) (W := W) (K := K) (V := V) hi hx hn0 n10 hn h3
  have h3' : ∀ z, 0 ≤ y_np B c x n0 hd nd n sr W K V 3 z ∧ y_np B c x n0 hd nd n sr W K V 3 z ≤ 20 := fun z => by
    rw [y_np_3]; split
    · exact hn
    · exact h3 z
  have m : 0 ≤ n0 ∧ n0 ≤ 10 := by omega
  rw [y_SF m h3', y_SN m h3', s 3, s 2]
  refine ⟨l3, l2, ?_⟩
  have e : p_sum (fun i => y_np B c x n0 hd nd n sr W K V 3 (10 * c + i)) n0 = p_sum (fun j => y_item (y_np B c x n0 hd nd n sr W K V) (-1) (10 * c + j)) n0 := p_sum_cg m.1 (fun j j0 j1 => (y_ws_1 (h3' _).1).symm)
  rw [e, s (-1), y_ws_1 hn.1]
  exact l1
