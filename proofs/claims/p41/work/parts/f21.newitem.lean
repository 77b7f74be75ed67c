/-! ===== an item is new, or has other words: the relation afterwards ===== -/
def y_z5 (k : Nat) (s : Int) : Bool := c_scb k s || (Nat.beq k 1 || Nat.beq k 5 || (Nat.ble 32 k && Nat.ble k 35) || (Nat.ble 64 k && Nat.ble k 74) || Nat.beq k 79 || (Nat.beq k 10 && decide (13 ≤ s ∧ s ≤ 14)) || (Nat.beq k 11 && decide (s = 12 ∨ s = 22)))
def y_X5 (M : qM) : qM := fun k m s => bif y_z5 k s then 0 else M k m s
def y_s5 (k : Nat) (s : Int) : Prop := k = 1 ∨ k = 5 ∨ (32 ≤ k ∧ k ≤ 35) ∨ (64 ≤ k ∧ k ≤ 74) ∨ k = 79 ∨ (k = 10 ∧ 13 ≤ s ∧ s ≤ 14) ∨ (k = 11 ∧ (s = 12 ∨ s = 22))
theorem y_z5_of {k : Nat} {s : Int} (h : y_s5 k s) : y_z5 k s = true := by
  unfold y_z5
  rcases h with h | h | h | h | h | h | h
  · subst h; cases c_scb 1 s <;> rfl
  · subst h; cases c_scb 5 s <;> rfl
  · rw [Nat.ble_eq_true_of_le h.1, Nat.ble_eq_true_of_le h.2]; simp
  · rw [Nat.ble_eq_true_of_le h.1, Nat.ble_eq_true_of_le h.2]; simp
  · subst h; cases c_scb 79 s <;> rfl
  · obtain ⟨h, h2⟩ := h; subst h; rw [decide_eq_true h2]; cases c_scb 10 s <;> rfl
  · obtain ⟨h, h2⟩ := h; subst h; rw [decide_eq_true h2]; cases c_scb 11 s <;> rfl
theorem y_X5_eq {M N : qM} (h : ∀ (k : Nat) (m s : Int), ¬ c_scr k s → ¬ y_s5 k s → N k m s = M k m s) : y_X5 N = y_X5 M := by
  funext k m s
  unfold y_X5
  by_cases q : c_scr k s
  · have e : y_z5 k s = true := by unfold y_z5; rw [c_scb_of q]; rfl
    rw [e]; rfl
  · by_cases q2 : y_s5 k s
    · rw [y_z5_of q2]; rfl
    · rw [h k m s q q2]
theorem y_cg5 {P : qM → Prop} (hP : ∀ M, P (y_X5 M) = P M) {M N : qM} (h : y_X5 N = y_X5 M) (p : P M) : P N := by
  rw [← hP N, h, hP M]; exact p
/-- the book with item x of chapter c made, or made anew: n0 items, its head, need, words, serial -/
def y_np (B : pT) (c x n0 hd nd n sr : Int) (W K V : Int → Int) : pT := fun k s =>
  if k = 0 then (if s = c then n0 else B 0 s) else if k = 1 then (if s = x then hd else B 1 s) else if k = 2 then (if s = x then nd else B 2 s) else if k = 3 then (if s = x then n else B 3 s) else if k = 7 then (if s = x then sr else B 7 s) else if k = 4 then (if 20 * x ≤ s ∧ s < 20 * x + n then K (s - 20 * x) else B 4 s) else if k = 5 then (if 20 * x ≤ s ∧ s < 20 * x + n then V (s - 20 * x) else B 5 s) else if k = 6 then (if 20 * x ≤ s ∧ s < 20 * x + n then W (s - 20 * x) else B 6 s) else B k s
section YN
variable {B : pT} {c x n0 hd nd n sr : Int} {W K V : Int → Int}
theorem y_np_0 {s : Int} : y_np B c x n0 hd nd n sr W K V 0 s = if s = c then n0 else B 0 s := rfl
theorem y_np_1 {s : Int} : y_np B c x n0 hd nd n sr W K V 1 s = if s = x then hd else B 1 s := rfl
theorem y_np_2 {s : Int} : y_np B c x n0 hd nd n sr W K V 2 s = if s = x then nd else B 2 s := rfl
theorem y_np_3 {s : Int} : y_np B c x n0 hd nd n sr W K V 3 s = if s = x then n else B 3 s := rfl
theorem y_np_7 {s : Int} : y_np B c x n0 hd nd n sr W K V 7 s = if s = x then sr else B 7 s := rfl
theorem y_np_4 {s : Int} : y_np B c x n0 hd nd n sr W K V 4 s = if 20 * x ≤ s ∧ s < 20 * x + n then K (s - 20 * x) else B 4 s := rfl
theorem y_np_5 {s : Int} : y_np B c x n0 hd nd n sr W K V 5 s = if 20 * x ≤ s ∧ s < 20 * x + n then V (s - 20 * x) else B 5 s := rfl
theorem y_np_6 {s : Int} : y_np B c x n0 hd nd n sr W K V 6 s = if 20 * x ≤ s ∧ s < 20 * x + n then W (s - 20 * x) else B 6 s := rfl
theorem y_np_8 {s : Int} : y_np B c x n0 hd nd n sr W K V 8 s = B 8 s := rfl
/-- what is not the item stays -/
theorem y_np_o {z : Int} (hn : n ≤ 20) (h : z ≠ x) : y_np B c x n0 hd nd n sr W K V 1 z = B 1 z ∧ y_np B c x n0 hd nd n sr W K V 2 z = B 2 z ∧ y_np B c x n0 hd nd n sr W K V 3 z = B 3 z ∧ y_np B c x n0 hd nd n sr W K V 7 z = B 7 z ∧ ∀ y, y / 20 = z → y_np B c x n0 hd nd n sr W K V 4 y = B 4 y ∧ y_np B c x n0 hd nd n sr W K V 5 y = B 5 y ∧ y_np B c x n0 hd nd n sr W K V 6 y = B 6 y := by
  refine ⟨by rw [y_np_1, if_neg h], by rw [y_np_2, if_neg h], by rw [y_np_3, if_neg h], by rw [y_np_7, if_neg h], fun y e => ?_⟩
  rw [y_np_4, y_np_5, y_np_6, if_neg (by omega), if_neg (by omega), if_neg (by omega)]
  exact ⟨rfl, rfl, rfl⟩
theorem y_np_w {y : Int} (hy : y / 20 = x) (h : y % 20 < n) : y_np B c x n0 hd nd n sr W K V 4 y = K (y % 20) ∧ y_np B c x n0 hd nd n sr W K V 5 y = V (y % 20) ∧ y_np B c x n0 hd nd n sr W K V 6 y = W (y % 20) := by
  rw [y_np_4, y_np_5, y_np_6, if_pos (by omega), if_pos (by omega), if_pos (by omega), show y - 20 * x = y % 20 by omega]
  exact ⟨rfl, rfl, rfl⟩
theorem y_np_x {y : Int} (h : ¬ y % 20 < n) : y_np B c x n0 hd nd n sr W K V 4 y = B 4 y ∧ y_np B c x n0 hd nd n sr W K V 5 y = B 5 y ∧ y_np B c x n0 hd nd n sr W K V 6 y = B 6 y := by
  rw [y_np_4, y_np_5, y_np_6]
  by_cases q : n ≤ 20
  · rw [if_neg (by omega), if_neg (by omega), if_neg (by omega)]; exact ⟨rfl, rfl, rfl⟩
  · omega
theorem y_np_ok {i : Int} (hB : c_ok B) (hB2 : c_ok2 B) (hc : 0 ≤ c ∧ c < 3) (hi : 0 ≤ i ∧ i < 10) (hx : x = 10 * c + i) (hn0 : (n0 = i + 1 ∧ i = B 0 c) ∨ (n0 = B 0 c ∧ i < B 0 c)) (hn : 0 ≤ n ∧ n ≤ 20) (hh : (hd = 1 ∧ n = 0 ∧ 1 ≤ nd ∧ nd ≤ 3) ∨ (hd = 0 ∧ 1 ≤ n)) (hw : ∀ w, 0 ≤ w → w < n → c_word (W w) (K w) (V w)) (hs : p_SF (c_A0 (y_np B c x n0 hd nd n sr W K V) c) n0 ≤ 4 ∧ p_SN (c_A0 (y_np B c x n0 hd nd n sr W K V) c) n0 ≤ 12 ∧ p_sum (fun i => y_np B c x n0 hd nd n sr W K V 3 (10 * c + i)) n0 ≤ 60) : c_ok (y_np B c x n0 hd nd n sr W K V) ∧ c_ok2 (y_np B c x n0 hd nd n sr W K V) := by
  have n10 := (hB.1 c hc.1 hc.2).1
  have th : ∀ z, 0 ≤ z → z < 30 → z ≠ x → (z % 10 < y_np B c x n0 hd nd n sr W K V 0 (z / 10) ↔ z % 10 < B 0 (z / 10)) := fun z z0 z1 zx => by
    rw [y_np_0]
    by_cases e : z / 10 = c
    · rw [if_pos e, e]; omega
    · rw [if_neg e]
  have thx : x % 10 < y_np B c x n0 hd nd n sr W K V 0 (x / 10) := by rw [y_np_0, if_pos (by omega)]; omega
  refine ⟨⟨fun c' c0 c1 => ?_, fun z => ?_, fun z z0 z1 t => ?_, fun y => ?_, fun y y0 y1 t => ?_, fun y => ?_, hB.2.2.2.2.2.2⟩, fun z z0 z1 t => ?_⟩
  · by_cases e : c' = c
    · subst e
      rw [y_np_0, if_pos rfl]
      exact ⟨by omega, hs⟩
    · rw [y_np_0, if_neg e]
      have o := hB.1 c' c0 c1
      have oo : ∀ j, 0 ≤ j → j < B 0 c' → 10 * c' + j ≠ x := fun j j0 j1 => by omega
      have e1 : p_SF (c_A0 (y_np B c x n0 hd nd n sr W K V) c') (B 0 c') = p_SF (c_A0 B c') (B 0 c') := p_sum_cg o.1.1 (fun j j0 j1 => by
        have v := fun w => c_A_v (B := B) (L := fun _ => 0) (E := fun _ _ => 0) (c := c') (i := j) (w := w) ⟨j0, by omega⟩
        have v' := fun w => c_A_v (B := y_np B c x n0 hd nd n sr W K V) (L := fun _ => 0) (E := fun _ _ => 0) (c := c') (i := j) (w := w) ⟨j0, by omega⟩
        have q := y_np_o (B := B) (c := c) (n0 := n0) (hd := hd) (nd := nd) (sr := sr) (W := W) (K := K) (V := V) hn.2 (oo j j0 j1)
        show p_PF (c_A0 _ c') j (c_A0 _ c' 6 j 0) = p_PF (c_A0 B c') j (c_A0 B c' 6 j 0)
        unfold c_A0
        rw [(v' 0).2.2.2.2.2.2, (v 0).2.2.2.2.2.2, q.2.2.1]
        refine p_sum_cg (hB.2.1 _).1 (fun w w0 w1 => ?_)
        have nb := hB.2.1 (10 * c' + j)
        show (if c_A _ _ _ c' 4 j w = 3 then (1 : Int) else 0) = if c_A _ _ _ c' 4 j w = 3 then 1 else 0
        rw [(v' w).2.2.2.2.1, (v w).2.2.2.2.1, (q.2.2.2.2 (20 * (10 * c' + j) + w) (by omega)).1])
      have e2 : p_SN (c_A0 (y_np B c x n0 hd nd n sr W K V) c') (B 0 c') = p_SN (c_A0 B c') (B 0 c') := p_sum_cg o.1.1 (fun j j0 j1 => by
        have v := fun w => c_A_v (B := B) (L := fun _ => 0) (E := fun _ _ => 0) (c := c') (i := j) (w := w) ⟨j0, by omega⟩
        have v' := fun w => c_A_v (B := y_np B c x n0 hd nd n sr W K V) (L := fun _ => 0) (E := fun _ _ => 0) (c := c') (i := j) (w := w) ⟨j0, by omega⟩
        have q := y_np_o (B := B) (c := c) (n0 := n0) (hd := hd) (nd := nd) (sr := sr) (W := W) (K := K) (V := V) hn.2 (oo j j0 j1)
        show p_PN (c_A0 _ c') j (c_A0 _ c' 6 j 0) = p_PN (c_A0 B c') j (c_A0 B c' 6 j 0)
        unfold c_A0
        rw [(v' 0).2.2.2.2.2.2, (v 0).2.2.2.2.2.2, q.2.2.1]
        refine p_sum_cg (hB.2.1 _).1 (fun w w0 w1 => ?_)
        have nb := hB.2.1 (10 * c' + j)
        show (if c_A _ _ _ c' 4 j w = 2 then c_A _ _ _ c' 5 j w else 0) = if c_A _ _ _ c' 4 j w = 2 then c_A _ _ _ c' 5 j w else 0
        rw [(v' w).2.2.2.2.1, (v w).2.2.2.2.1, (v' w).2.2.2.2.2.1, (v w).2.2.2.2.2.1, (q.2.2.2.2 (20 * (10 * c' + j) + w) (by omega)).1, (q.2.2.2.2 (20 * (10 * c' + j) + w) (by omega)).2.1])
      have e3 : p_sum (fun i => y_np B c x n0 hd nd n sr W K V 3 (10 * c' + i)) (B 0 c') = p_sum (fun i => B 3 (10 * c' + i)) (B 0 c') := p_sum_cg o.1.1 (fun j j0 j1 => by
        show y_np B c x n0 hd nd n sr W K V 3 (10 * c' + j) = B 3 (10 * c' + j)
        rw [y_np_3, if_neg (oo j j0 j1)])
      rw [e1, e2, e3]
      exact o
  · rw [y_np_3]; split
    · exact hn
    · exact hB.2.1 z
  · by_cases e : z = x
    · subst e
      rw [y_np_1, y_np_2, y_np_3, if_pos rfl, if_pos rfl, if_pos rfl]; exact hh
    · rw [y_np_1, y_np_2, y_np_3, if_neg e, if_neg e, if_neg e]
      exact hB.2.2.1 z z0 z1 ((th z z0 z1 e).mp t)
  · rw [y_np_5]; split
    · exact (hw (y - 20 * x) (by omega) (by omega)).2.2.1
    · exact hB.2.2.2.1 y
  · obtain ⟨t1, t2⟩ := t
    by_cases e : y / 20 = x
    · rw [y_np_3, if_pos e] at t2
      have q := y_np_w (B := B) (c := c) (n0 := n0) (hd := hd) (nd := nd) (sr := sr) (W := W) (K := K) (V := V) e t2
      have z := hw (y % 20) (by omega) t2
      rw [q.1, q.2.1]
      exact ⟨z.2.1, z.2.2.2.1, z.2.2.2.2.1, z.2.2.2.2.2⟩
    · have q := (y_np_o (B := B) (c := c) (n0 := n0) (hd := hd) (nd := nd) (sr := sr) (W := W) (K := K) (V := V) hn.2 e).2.2.2.2 y rfl
      rw [q.1, q.2.1]
      rw [y_np_3, if_neg e] at t2
      rw [show y / 200 = y / 20 / 10 by omega] at t1
      have t3 := (th (y / 20) (by omega) (by omega) e).mp t1
      rw [show y / 20 / 10 = y / 200 by omega] at t3
      exact hB.2.2.2.2.1 y y0 y1 ⟨t3, t2⟩
  · rw [y_np_6]; split
    · exact (hw (y - 20 * x) (by omega) (by omega)).1
    · exact hB.2.2.2.2.2.1 y
  · have e : z ≠ x := fun e => t (by rw [e]; exact thx)
    rw [y_np_1, y_np_3, if_neg e, if_neg e]
    exact hB2 z z0 z1 (fun k => t ((th z z0 z1 e).mpr k))
end YN
