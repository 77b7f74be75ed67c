/-! ===== class and law behind a new item ===== -/
section
variable {B : pT} {n c i it x n0 hd nd nw dr : Int} {M M2 N : qM}
theorem l_sum6 {g g' : Int → Int} {i v : Int} (hi : 0 ≤ i ∧ i < 6) (h : ∀ j, 0 ≤ j → j < 6 → j ≠ i → g' j = g j) (h1 : g' i = v) (h2 : g i = 0) : p_sum g' 6 = p_sum g 6 + v := p_sum_one hi h h1 h2
theorem l_heads (hB : c_ok B) (hB2 : c_ok2 B) (hc : 0 ≤ c ∧ c < 3) : ∀ i, 0 ≤ i → i < 6 → (if B 1 (10 * c + i) = 0 then (0 : Int) else 1) + B 3 (10 * c + i) = (if B 1 (10 * c + i) = 0 then B 3 (10 * c + i) else 1) := fun i i0 i6 => by
  by_cases r : (10 * c + i) % 10 < B 0 ((10 * c + i) / 10)
  · rcases hB.2.2.1 (10 * c + i) (by omega) (by omega) r with q | q
    · rw [if_neg (by omega), if_neg (by omega)]; omega
    · rw [if_pos q.1, if_pos q.1]; omega
  · have q := hB2 (10 * c + i) (by omega) (by omega) r
    rw [if_pos q.1, if_pos q.1]; omega
/-- the law's limit on the new book -/
theorem l_lim (hB : c_ok B) (hB2 : c_ok2 B) (hl : k_lim B) (hc : 0 ≤ c ∧ c < 3) (hi : 0 ≤ i ∧ i < 6) (hn0 : (n0 = i + 1 ∧ i = B 0 c) ∨ (n0 = B 0 c ∧ i < B 0 c)) (hh : (hd = 1 ∧ nw = 0) ∨ hd = 0) (hn : 0 ≤ nw ∧ nw ≤ 15) {M : qM} (hw : ∀ w, 0 ≤ w → w < nw → M 33 0 w = 6 → M 32 0 w = 0) {but : Int} (hbt : (but = -1 ∧ i = B 0 c) ∨ (but = 6 * c + i ∧ i < B 0 c ∧ B 1 (10 * c + i) = 0)) (hd16 : hd = 0 → B 1 (10 * c + i) = 0) (room : k_ct3 B c but (-1) + nw + (if hd = 0 then 0 else 1) + p_sum (fun j => if B 1 (10 * c + j) = 0 then 0 else 1) 6 ≤ 16) : k_lim (z_nB B c (10 * c + i) n0 hd nd nw M) := by
  have l6 := (hl.1 c hc.1 hc.2).1
  have b0 := (hB.1 c hc.1 hc.2).1
  have nx := fun (z : Int) (e : z ≠ 10 * c + i) => y_np_o (B := B) (c := c) (x := 10 * c + i) (n0 := n0) (hd := hd) (nd := nd) (n := nw) (sr := M 10 0 14 + 1) (W := M 32 0) (K := M 33 0) (V := M 34 0) (by omega) e
  have e0 : ∀ c', z_nB B c (10 * c + i) n0 hd nd nw M 0 c' = if c' = c then n0 else B 0 c' := fun c' => rfl
  have e1 : ∀ z, z_nB B c (10 * c + i) n0 hd nd nw M 1 z = if z = 10 * c + i then hd else B 1 z := fun z => rfl
  have e3 : ∀ z, z_nB B c (10 * c + i) n0 hd nd nw M 3 z = if z = 10 * c + i then nw else B 3 z := fun z => rfl
  have e1n : ∀ z, z ≠ 10 * c + i → z_nB B c (10 * c + i) n0 hd nd nw M 1 z = B 1 z := fun z ne => (e1 z).trans (if_neg ne)
  have e3n : ∀ z, z ≠ 10 * c + i → z_nB B c (10 * c + i) n0 hd nd nw M 3 z = B 3 z := fun z ne => (e3 z).trans (if_neg ne)
  have e1x : z_nB B c (10 * c + i) n0 hd nd nw M 1 (10 * c + i) = hd := (e1 _).trans (if_pos rfl)
  have e3x : z_nB B c (10 * c + i) n0 hd nd nw M 3 (10 * c + i) = nw := (e3 _).trans (if_pos rfl)
  refine ⟨fun c' c0 c1 => ?_, fun z z0 z1 => ?_, fun y y0 y1 t k6 => ?_⟩
  · rw [e0]
    by_cases e : c' = c
    · subst e
      rw [if_pos rfl]
      refine ⟨by omega, ?_⟩
      -- the sum over six
      have g6 : p_sum (fun j => if z_nB B c' (10 * c' + i) n0 hd nd nw M 1 (10 * c' + j) = 0 then z_nB B c' (10 * c' + i) n0 hd nd nw M 3 (10 * c' + j) else 1) 6 = p_sum (fun j => if z_nB B c' (10 * c' + i) n0 hd nd nw M 1 (10 * c' + j) = 0 then z_nB B c' (10 * c' + i) n0 hd nd nw M 3 (10 * c' + j) else 1) n0 := b_gap (by omega) (by omega) (fun j j0 j6 => by
        show (if z_nB B c' (10 * c' + i) n0 hd nd nw M 1 (10 * c' + j) = 0 then z_nB B c' (10 * c' + i) n0 hd nd nw M 3 (10 * c' + j) else 1) = 0
        rw [e1n _ (by omega), e3n _ (by omega)]
        have q := hB2 (10 * c' + j) (by omega) (by omega) (by rw [show (10 * c' + j) / 10 = c' by omega]; omega)
        rw [if_pos q.1]; exact q.2)
      rw [← g6]
      have s1 : p_sum (fun j => if z_nB B c' (10 * c' + i) n0 hd nd nw M 1 (10 * c' + j) = 0 then z_nB B c' (10 * c' + i) n0 hd nd nw M 3 (10 * c' + j) else 1) 6 = p_sum (fun j => if j = i then 0 else (if B 1 (10 * c' + j) = 0 then B 3 (10 * c' + j) else 1)) 6 + (if hd = 0 then nw else 1) := l_sum6 hi (fun j j0 j6 ne => by
        show (if z_nB B c' (10 * c' + i) n0 hd nd nw M 1 (10 * c' + j) = 0 then z_nB B c' (10 * c' + i) n0 hd nd nw M 3 (10 * c' + j) else 1) = if j = i then 0 else (if B 1 (10 * c' + j) = 0 then B 3 (10 * c' + j) else 1)
        rw [e1n _ (by omega), e3n _ (by omega), if_neg ne]) (by
        show (if z_nB B c' (10 * c' + i) n0 hd nd nw M 1 (10 * c' + i) = 0 then z_nB B c' (10 * c' + i) n0 hd nd nw M 3 (10 * c' + i) else 1) = if hd = 0 then nw else 1
        rw [e1x, e3x]) (if_pos rfl)
      rw [s1]
      have s2 : p_sum (fun j => if j = i then 0 else (if B 1 (10 * c' + j) = 0 then B 3 (10 * c' + j) else 1)) 6 ≤ k_ct3 B c' but (-1) + p_sum (fun j => if B 1 (10 * c' + j) = 0 then 0 else 1) 6 := by
        have ct : k_ct3 B c' but (-1) = p_sum (fun j => if j = i then 0 else B 3 (10 * c' + j)) 6 := p_sum_cg (by decide) (fun j j0 j6 => by
          have kx : k_x (6 * c' + j) = 10 * c' + j := k_x_c hc ⟨j0, j6⟩
          show k_sm B but (-1) (6 * c' + j) = if j = i then 0 else B 3 (10 * c' + j)
          have all : p_sum (k_sg B (-1) (6 * c' + j)) (B 3 (10 * c' + j)) = B 3 (10 * c' + j) := by
            have nb := (hB.2.1 (10 * c' + j)).1
            refine q_upto (P := fun z => 0 ≤ z → p_sum (k_sg B (-1) (6 * c' + j)) z = z → p_sum (k_sg B (-1) (6 * c' + j)) (B 3 (10 * c' + j)) = B 3 (10 * c' + j)) nb (fun _ q => q) (fun z z0 z1 ihz _ q => ihz (by omega) ?_) (Int.le_refl _) p_sum_0
            rw [p_sum_s z0, q]
            unfold k_sg
            rw [if_pos (by decide)]
          unfold k_sm
          rw [kx]
          by_cases e : j = i
          · rw [if_pos e]
            rcases hbt with ⟨b1, b2⟩ | ⟨b1, b2, _⟩
            · rw [if_neg (by omega), all, e]
              exact (hB2 (10 * c' + i) (by omega) (by omega) (by rw [show (10 * c' + i) / 10 = c' by omega]; omega)).2
            · rw [if_pos (by omega)]
          · rw [if_neg e]
            rcases hbt with ⟨b1, b2⟩ | ⟨b1, b2, _⟩
            · rw [if_neg (by omega), all]
            · rw [if_neg (by omega), all])
        rw [ct]
        have E : ∀ g : Int → Int, p_sum g 6 = 0 + g 0 + g 1 + g 2 + g 3 + g 4 + g 5 := fun g => rfl
        rw [E, E, E]
        have hs := fun j a b => l_heads hB hB2 hc j a b
        have t := fun j (a : 0 ≤ j) (b : j < 6) => show (if j = i then (0 : Int) else (if B 1 (10 * c' + j) = 0 then B 3 (10 * c' + j) else 1)) ≤ (if j = i then 0 else B 3 (10 * c' + j)) + (if B 1 (10 * c' + j) = 0 then 0 else 1) by
          have h := hs j a b
          by_cases e : j = i
          · rw [if_pos e, if_pos e]; split <;> omega
          · rw [if_neg e, if_neg e]; omega
        have t0 := t 0 (by decide) (by decide)
        have t1 := t 1 (by decide) (by decide)
        have t2 := t 2 (by decide) (by decide)
        have t3 := t 3 (by decide) (by decide)
        have t4 := t 4 (by decide) (by decide)
        have t5 := t 5 (by decide) (by decide)
        omega
      have e4 : (if hd = 0 then nw else 1) = nw + (if hd = 0 then 0 else 1) := by
        rcases hh with ⟨a, b⟩ | a
        · rw [if_neg (by omega), if_neg (by omega)]; omega
        · rw [if_pos a, if_pos a]; omega
      omega
    · rw [if_neg e]
      have o := hl.1 c' c0 c1
      refine ⟨o.1, ?_⟩
      have g : p_sum (fun j => if z_nB B c (10 * c + i) n0 hd nd nw M 1 (10 * c' + j) = 0 then z_nB B c (10 * c + i) n0 hd nd nw M 3 (10 * c' + j) else 1) (B 0 c') = p_sum (fun j => if B 1 (10 * c' + j) = 0 then B 3 (10 * c' + j) else 1) (B 0 c') := p_sum_cg (hB.1 c' c0 c1).1.1 (fun j j0 j1 => by
        show (if z_nB B c (10 * c + i) n0 hd nd nw M 1 (10 * c' + j) = 0 then z_nB B c (10 * c + i) n0 hd nd nw M 3 (10 * c' + j) else 1) = if B 1 (10 * c' + j) = 0 then B 3 (10 * c' + j) else 1
        rw [e1n _ (by omega), e3n _ (by omega)])
      rw [g]
      exact o.2
  · rw [e3]
    split
    · exact hn.2
    · exact hl.2.1 z z0 z1
  · by_cases e : y / 20 = 10 * c + i
    · have t2 := t.2
      rw [e3, if_pos e] at t2
      have q := y_np_w (B := B) (c := c) (n0 := n0) (hd := hd) (nd := nd) (sr := M 10 0 14 + 1) (W := M 32 0) (K := M 33 0) (V := M 34 0) e t2
      have k6' : y_np B c (10 * c + i) n0 hd nd nw (M 10 0 14 + 1) (M 32 0) (M 33 0) (M 34 0) 4 y = 6 := k6
      show y_np B c (10 * c + i) n0 hd nd nw (M 10 0 14 + 1) (M 32 0) (M 33 0) (M 34 0) 6 y = 0
      rw [q.1] at k6'
      rw [q.2.2]
      exact hw _ (by omega) t2 k6'
    · have q := (nx _ e).2.2.2.2 y rfl
      have k6' : y_np B c (10 * c + i) n0 hd nd nw (M 10 0 14 + 1) (M 32 0) (M 33 0) (M 34 0) 4 y = 6 := k6
      show y_np B c (10 * c + i) n0 hd nd nw (M 10 0 14 + 1) (M 32 0) (M 33 0) (M 34 0) 6 y = 0
      rw [q.1] at k6'
      rw [q.2.2]
      refine hl.2.2 y y0 y1 ⟨?_, ?_⟩ k6'
      · have t1 := t.1
        rw [e0] at t1
        by_cases ec : y / 200 = c
        · rw [if_pos ec] at t1
          rw [ec]
          rcases hn0 with ⟨a, b⟩ | ⟨a, b⟩ <;> omega
        · rw [if_neg ec] at t1; exact t1
      · have t2 := t.2
        rw [e3, if_neg e] at t2
        exact t2
/-- no label twice in the new book -/
theorem l_uq (hB : c_ok B) (huq : k_uq B) (hc : 0 ≤ c ∧ c < 3) (hi : 0 ≤ i ∧ i < 6) (hn0 : (n0 = i + 1 ∧ i = B 0 c) ∨ (n0 = B 0 c ∧ i < B 0 c)) (hn : 0 ≤ nw ∧ nw ≤ 15) {M : qM} {but : Int} (hbt : (but = -1 ∧ i = B 0 c) ∨ (but = i ∧ i < B 0 c)) (two : ¬ y_two B (y_bx c but) (M 33 0) (M 34 0) nw) : k_uq (z_nB B c (10 * c + i) n0 hd nd nw M) := by
  have e0 : ∀ c', z_nB B c (10 * c + i) n0 hd nd nw M 0 c' = if c' = c then n0 else B 0 c' := fun c' => rfl
  have e3 : ∀ z, z_nB B c (10 * c + i) n0 hd nd nw M 3 z = if z = 10 * c + i then nw else B 3 z := fun z => rfl
  -- a label of the new book: of the item, or an old one
  have un : ∀ y, 0 ≤ y → y < 600 → c_K (z_nB B c (10 * c + i) n0 hd nd nw M) y = 1 → (y / 20 = 10 * c + i ∧ y % 20 < nw ∧ M 33 0 (y % 20) = 1 ∧ z_nB B c (10 * c + i) n0 hd nd nw M 5 y = M 34 0 (y % 20)) ∨ (y / 20 ≠ 10 * c + i ∧ c_there B y ∧ B 4 y = 1 ∧ c_K B y = 1 ∧ z_nB B c (10 * c + i) n0 hd nd nw M 5 y = B 5 y) := fun y y0 y1 k => by
    have th : c_there (z_nB B c (10 * c + i) n0 hd nd nw M) y := c_K_there (by omega)
    have k4 : z_nB B c (10 * c + i) n0 hd nd nw M 4 y = 1 := by rw [← z_there th]; exact k
    by_cases e : y / 20 = 10 * c + i
    · have t2 := th.2
      rw [e3, if_pos e] at t2
      have q := y_np_w (B := B) (c := c) (n0 := n0) (hd := hd) (nd := nd) (sr := M 10 0 14 + 1) (W := M 32 0) (K := M 33 0) (V := M 34 0) e t2
      have k4' : y_np B c (10 * c + i) n0 hd nd nw (M 10 0 14 + 1) (M 32 0) (M 33 0) (M 34 0) 4 y = 1 := k4
      rw [q.1] at k4'
      exact Or.inl ⟨e, t2, k4', q.2.1⟩
    · have q := (y_np_o (B := B) (c := c) (x := 10 * c + i) (n0 := n0) (hd := hd) (nd := nd) (n := nw) (sr := M 10 0 14 + 1) (W := M 32 0) (K := M 33 0) (V := M 34 0) (by omega) e).2.2.2.2 y rfl
      have k4' : y_np B c (10 * c + i) n0 hd nd nw (M 10 0 14 + 1) (M 32 0) (M 33 0) (M 34 0) 4 y = 1 := k4
      rw [q.1] at k4'
      have tb : c_there B y := ⟨by
        have t1 := th.1
        rw [e0] at t1
        by_cases ec : y / 200 = c
        · rw [if_pos ec] at t1
          rw [ec]
          rcases hn0 with ⟨a, b⟩ | ⟨a, b⟩ <;> omega
        · rw [if_neg ec] at t1; exact t1, by
        have t2 := th.2
        rw [e3, if_neg e] at t2
        exact t2⟩
      exact Or.inr ⟨e, tb, k4', by rw [z_there tb]; exact k4', q.2.1⟩
  have bx : y_bx c but = if but = -1 then -1 else 10 * c + but := rfl
  have no : ∀ y w, 0 ≤ y → y < 600 → c_there B y → y / 20 ≠ 10 * c + i → B 4 y = 1 → 0 ≤ w → w < nw → M 33 0 w = 1 → M 34 0 w = B 5 y → False := fun y w y0 y1 tb ne b4 w0 w1 kw vw => two ⟨w, ⟨w0, w1⟩, kw, Or.inl ⟨y, ⟨y0, y1⟩, tb, by
    rw [bx]
    rcases hbt with ⟨a, _⟩ | ⟨a, b⟩
    · rw [if_pos a]; omega
    · rw [if_neg (by omega), a]; exact ne, b4, vw.symm⟩⟩
  intro y z y0 y1 z0 z1 ky kz e
  rcases un y y0 y1 ky with ⟨a1, a2, a3, a4⟩ | ⟨a1, a2, a3, a4, a5⟩ <;> rcases un z z0 z1 kz with ⟨b1, b2, b3, b4⟩ | ⟨b1, b2, b3, b4, b5⟩
  · rw [a4, b4] at e
    rcases Int.lt_trichotomy (y % 20) (z % 20) with q | q | q
    · exact absurd ⟨z % 20, ⟨by omega, b2⟩, b3, Or.inr ⟨y % 20, ⟨by omega, q⟩, a3, e⟩⟩ two
    · omega
    · exact absurd ⟨y % 20, ⟨by omega, a2⟩, a3, Or.inr ⟨z % 20, ⟨by omega, q⟩, b3, e.symm⟩⟩ two
  · rw [a4, b5] at e
    exact (no z (y % 20) z0 z1 b2 b1 b3 (by omega) a2 a3 e).elim
  · rw [a5, b4] at e
    exact (no y (z % 20) y0 y1 a2 a1 a3 (by omega) b2 b3 e.symm).elim
  · rw [a5, b5] at e
    exact huq y z y0 y1 z0 z1 a4 b4 e
set_option maxHeartbeats 4000000 in
/-- the relation behind a new item -/
theorem l_new (h : l_all n B M) (hc : 0 ≤ c ∧ c < 3) (hi : 0 ≤ i ∧ i < 6) (hit : it = 6 * c + i) (hx : x = 10 * c + i) (hn0 : (n0 = i + 1 ∧ i = B 0 c) ∨ (n0 = B 0 c ∧ i < B 0 c)) (hn : 0 ≤ nw ∧ nw ≤ 15) (hhd : hd = 0 ∨ hd = 1)
    (law : ∀ (k : Nat) (o s : Int), ¬ (k = 64 ∧ o = 0 ∧ 3 * it ≤ s ∧ s < 3 * it + 3) → ¬ (k = 65 ∧ o = 0 ∧ s = it) → ¬ (k = 76 ∧ o = 0 ∧ (s = 0 ∨ s = 4)) → ¬ (k = 77 ∧ o = 0 ∧ s = c) → ¬ 87 ≤ k → M2 k o s = M k o s)
    (v77 : M2 77 0 c = n0) (v65 : (0 ≤ M2 65 0 it ∧ M2 65 0 it ≤ 2147483647) ∧ M2 65 0 it % 32 = nw ∧ M2 65 0 it / 32 % 2 = hd ∧ (hd ≠ 0 → M2 65 0 it / 64 % 4 = nd)) (v65b : hd = 0 → M2 65 0 it / 65536 = 0) (v65c : M2 65 0 it / 256 % 256 ≤ n + 1) (v65d : i < B 0 c → M2 65 0 it / 256 % 256 = M 65 0 it / 256 % 256 + 1)
    (vcd : ∀ w, 0 ≤ w → w < nw → k_cd M2 it w = M 32 0 w + 16 * M 33 0 w + 128 * M 34 0 w) (v4 : M2 76 0 4 = 0) (v0 : M2 76 0 0 = dr) (hdr : dr = 0 ∨ dr = M 5 0 2)
    (zn : z_new n B c x n0 hd nd nw dr M2 N) (lim : k_lim (z_nB B c x n0 hd nd nw M)) (uq : k_uq (z_nB B c x n0 hd nd nw M)) : l_rel (n + 1) N := by
  subst hit
  subst hx
  obtain ⟨⟨b1, ⟨b2, b3, b4⟩, ⟨b5, b6⟩, b7, b8, b9⟩, hm, hp⟩ := h
  obtain ⟨z1, z2, z3, z4, z5, z6, z7⟩ := zn
  have cl : ∀ (k : Nat) (o s : Int), k < 64 → M2 k o s = M k o s := fun k o s a => law k o s (by omega) (by omega) (by omega) (by omega) (by omega)
  have eB : z_nB B c (10 * c + i) n0 hd nd nw M2 = z_nB B c (10 * c + i) n0 hd nd nw M := by
    unfold z_nB
    rw [cl 10 0 14 (by decide), show M2 32 0 = M 32 0 from funext fun s => cl 32 0 s (by decide), show M2 33 0 = M 33 0 from funext fun s => cl 33 0 s (by decide), show M2 34 0 = M 34 0 from funext fun s => cl 34 0 s (by decide)]
  have hB := b1.2.1.1.1
  have l6 := (b3.1 c hc.1 hc.2).1
  have b0 := (hB.1 c hc.1 hc.2).1
  -- the law's arrays at the end
  have la : ∀ (k : Nat) (o s : Int), 64 ≤ k → N k o s = M2 k o s := z2.1
  have lo : ∀ (k : Nat) (o s : Int), 64 ≤ k → ¬ (k = 64 ∧ o = 0 ∧ 3 * (6 * c + i) ≤ s ∧ s < 3 * (6 * c + i) + 3) → ¬ (k = 65 ∧ o = 0 ∧ s = 6 * c + i) → ¬ (k = 76 ∧ o = 0 ∧ (s = 0 ∨ s = 4)) → ¬ (k = 77 ∧ o = 0 ∧ s = c) → ¬ 87 ≤ k → N k o s = M k o s := fun k o s a a1 a2 a3 a4 a5 => by rw [la k o s a, law k o s a1 a2 a3 a4 a5]
  have e65 : ∀ it', 0 ≤ it' → it' < 18 → it' ≠ 6 * c + i → N 65 0 it' = M 65 0 it' := fun it' _ _ ne => lo _ _ _ (by decide) (by omega) (by omega) (by omega) (by omega) (by decide)
  have ex : N 65 0 (6 * c + i) = M2 65 0 (6 * c + i) := la _ _ _ (by decide)
  have kxi : k_x (6 * c + i) = 10 * c + i := k_x_c hc hi
  have kne : ∀ it', 0 ≤ it' → it' < 18 → it' ≠ 6 * c + i → k_x it' ≠ 10 * c + i := fun it' a b ne e => by
    have x := k_x_p ⟨a, b⟩
    rw [e] at x
    omega
  rw [eB] at z1 z3
  have nx := fun (z : Int) (e : z ≠ 10 * c + i) => y_np_o (B := B) (c := c) (x := 10 * c + i) (n0 := n0) (hd := hd) (nd := nd) (n := nw) (sr := M 10 0 14 + 1) (W := M 32 0) (K := M 33 0) (V := M 34 0) (by omega) e
  have e0 : ∀ c', z_nB B c (10 * c + i) n0 hd nd nw M 0 c' = if c' = c then n0 else B 0 c' := fun c' => rfl
  have e1 : ∀ z, z_nB B c (10 * c + i) n0 hd nd nw M 1 z = if z = 10 * c + i then hd else B 1 z := fun z => rfl
  have e2 : ∀ z, z_nB B c (10 * c + i) n0 hd nd nw M 2 z = if z = 10 * c + i then nd else B 2 z := fun z => rfl
  have e3 : ∀ z, z_nB B c (10 * c + i) n0 hd nd nw M 3 z = if z = 10 * c + i then nw else B 3 z := fun z => rfl
  have e7 : ∀ z, z_nB B c (10 * c + i) n0 hd nd nw M 7 z = if z = 10 * c + i then M 10 0 14 + 1 else B 7 z := fun z => rfl
  have e8 : ∀ s, z_nB B c (10 * c + i) n0 hd nd nw M 8 s = B 8 s := fun s => rfl
  have cdo : ∀ it' w, 0 ≤ it' → it' < 18 → it' ≠ 6 * c + i → 0 ≤ w → w < 15 → k_cd N it' w = k_cd M it' w := fun it' w a b ne w0 w1 => by
    unfold k_cd
    rw [lo 64 _ _ (by decide) (by omega) (by omega) (by omega) (by omega) (by decide)]
  have cdx : ∀ w, k_cd N (6 * c + i) w = k_cd M2 (6 * c + i) w := fun w => by
    unfold k_cd
    rw [la 64 _ _ (by decide)]
  have bk : k_bk (z_nB B c (10 * c + i) n0 hd nd nw M) N := by
    refine ⟨fun c' c0 c1 => ?_, fun it' a b => ?_, fun it' w a b w0 w1 => ?_, ?_, ?_, ?_⟩
    · rw [e0]
      by_cases e : c' = c
      · rw [if_pos e, e, la 77 _ _ (by decide)]; exact v77
      · rw [if_neg e, lo 77 _ _ (by decide) (by omega) (by omega) (by omega) (by omega) (by decide)]; exact b2.1 c' c0 c1
    · rw [e1, e2, e3]
      by_cases e : it' = 6 * c + i
      · subst e
        rw [kxi, if_pos rfl, if_pos rfl, if_pos rfl, ex]
        exact v65
      · have ne := kne it' a b e
        rw [if_neg ne, if_neg ne, if_neg ne, e65 it' a b e]
        exact b2.2.1 it' a b
    · rw [e3] at w1
      by_cases e : it' = 6 * c + i
      · subst e
        rw [kxi, if_pos rfl] at w1
        have yy : k_y (6 * c + i) w / 20 = 10 * c + i ∧ k_y (6 * c + i) w % 20 = w := by unfold k_y; rw [kxi]; omega
        have q := y_np_w (B := B) (c := c) (n0 := n0) (hd := hd) (nd := nd) (sr := M 10 0 14 + 1) (W := M 32 0) (K := M 33 0) (V := M 34 0) yy.1 (by rw [yy.2]; exact w1)
        rw [yy.2] at q
        rw [cdx, vcd w w0 w1]
        show _ = y_np B c (10 * c + i) n0 hd nd nw (M 10 0 14 + 1) (M 32 0) (M 33 0) (M 34 0) 6 _ + 16 * y_np B c (10 * c + i) n0 hd nd nw (M 10 0 14 + 1) (M 32 0) (M 33 0) (M 34 0) 4 _ + 128 * y_np B c (10 * c + i) n0 hd nd nw (M 10 0 14 + 1) (M 32 0) (M 33 0) (M 34 0) 5 _
        rw [q.1, q.2.1, q.2.2]
      · have ne := kne it' a b e
        rw [if_neg ne] at w1
        have xx := k_x_p ⟨a, b⟩
        have n15 := b3.2.1 (k_x it') xx.1.1 xx.1.2
        have yy : k_y it' w / 20 = k_x it' := by unfold k_y; omega
        have q := (nx (k_x it') ne).2.2.2.2 (k_y it' w) yy
        rw [cdo it' w a b e w0 (by omega)]
        show _ = y_np B c (10 * c + i) n0 hd nd nw (M 10 0 14 + 1) (M 32 0) (M 33 0) (M 34 0) 6 _ + 16 * y_np B c (10 * c + i) n0 hd nd nw (M 10 0 14 + 1) (M 32 0) (M 33 0) (M 34 0) 4 _ + 128 * y_np B c (10 * c + i) n0 hd nd nw (M 10 0 14 + 1) (M 32 0) (M 33 0) (M 34 0) 5 _
        rw [q.1, q.2.1, q.2.2]
        exact b2.2.2.1 it' w a b w0 w1
    · rw [lo 76 _ _ (by decide) (by omega) (by omega) (by omega) (by omega) (by decide), e8]; exact b2.2.2.2.1
    · rw [lo 76 _ _ (by decide) (by omega) (by omega) (by omega) (by omega) (by decide), e8]; exact b2.2.2.2.2.1
    · rw [lo 76 _ _ (by decide) (by omega) (by omega) (by omega) (by omega) (by decide), e8]; exact b2.2.2.2.2.2
  have e66 : ∀ s, N 66 0 s = M 66 0 s := fun s => lo _ _ _ (by decide) (by omega) (by omega) (by omega) (by omega) (by decide)
  have real : ∀ it', 0 ≤ it' → it' < 18 → it' ≠ 6 * c + i → it' % 6 < z_nB B c (10 * c + i) n0 hd nd nw M 0 (it' / 6) → it' % 6 < B 0 (it' / 6) := fun it' a b ne r => by
    rw [e0] at r
    by_cases ec : it' / 6 = c
    · rw [if_pos ec] at r
      rw [ec]
      rcases hn0 with ⟨p, q⟩ | ⟨p, q⟩ <;> omega
    · rw [if_neg ec] at r; exact r
  have dr0 : l_dr N := by
    refine ⟨?_, fun w w0 w1 => ?_⟩
    · rw [la 76 _ _ (by decide), v0, z5]
      refine ⟨rfl, ?_⟩
      have := b7.1.2
      omega
    · rw [z5] at w1
      have wM : w < M 5 0 2 := by
        have := b1.2.2.1.1
        rcases hdr with e | e <;> omega
      have s := b7.2 w w0 wM
      have f : ∀ k : Nat, 32 ≤ k → k ≤ 34 → N k 0 w = M k 0 w := fun k a b => by
        rw [z6 k 0 w (by unfold z_cz; omega), cl k 0 w (by omega)]
      rw [f 32 (by decide) (by decide), f 33 (by decide) (by decide), f 34 (by decide) (by decide), lo 79 _ _ (by decide) (by omega) (by omega) (by omega) (by omega) (by decide)]
      exact s
  refine ⟨z_nB B c (10 * c + i) n0 hd nd nw M, ⟨z1, ⟨bk, lim, uq⟩, ⟨fun it' a b => by rw [e66]; exact b5 it' a b, fun it' a b r q => ?_⟩, dr0, fun t t0 t1 => ?_, ⟨fun it' a b => ?_, fun x' a b r q => ?_⟩⟩, Or.inl ⟨z4, by rw [la 76 _ _ (by decide)]; exact v4⟩, ?_⟩
  · show N 65 0 it' / 65536 = N 5 (1 + k_x it') 8 ∧ (N 5 (1 + k_x it') 8 ≠ 0 → kU (N 66 0 it') = kP 4 (fun j => (N 36 (1 + k_y it' j / 20) (k_y it' j % 20)).toNat) (z_nB B c (10 * c + i) n0 hd nd nw M 3 (k_x it')).toNat ∧ ∀ j, 0 ≤ j → j < z_nB B c (10 * c + i) n0 hd nd nw M 3 (k_x it') → 0 ≤ N 36 (1 + k_y it' j / 20) (k_y it' j % 20) ∧ N 36 (1 + k_y it' j / 20) (k_y it' j % 20) ≤ 15)
    rw [e1] at q
    rw [e3]
    by_cases e : it' = 6 * c + i
    · subst e
      rw [kxi, if_pos rfl] at q
      rw [kxi, ex, v65b q, z7 q]
      exact ⟨rfl, fun y => absurd rfl y⟩
    · have ne := kne it' a b e
      rw [if_neg ne] at q
      rw [if_neg ne]
      have xx := k_x_p ⟨a, b⟩
      have t := b6 it' a b (real it' a b e r) q
      have e5 : N 5 (1 + k_x it') 8 = M 5 (1 + k_x it') 8 := by rw [z6 5 _ _ (by unfold z_cz; omega), cl 5 _ _ (by decide)]
      have e36 : N 36 = M 36 := by funext m s; rw [z6 36 m s (by unfold z_cz; omega), cl 36 m s (by decide)]
      rw [e65 it' a b e, e5, e66, e36]
      exact t
  · rw [z6 63 0 t (by unfold z_cz; omega), cl 63 0 t (by decide), lo 78 _ _ (by decide) (by omega) (by omega) (by omega) (by omega) (by decide)]
    exact b8 t t0 t1
  · by_cases e : it' = 6 * c + i
    · subst e; rw [ex]; exact v65c
    · rw [e65 it' a b e]; have := b9.1 it' a b; omega
  · rw [e1] at q
    by_cases e : x' = 10 * c + i
    · subst e
      rw [if_pos rfl] at q
      rw [z7 q]
      omega
    · rw [if_neg e] at q
      rw [z6 5 _ _ (by unfold z_cz; omega), cl 5 _ _ (by decide)]
      refine b9.2 x' a b ?_ q
      rw [e0] at r
      by_cases ec : x' / 10 = c
      · rw [if_pos ec] at r
        rw [ec]
        rcases hn0 with ⟨p, q⟩ | ⟨p, q⟩ <;> omega
      · rw [if_neg ec] at r; exact r
  · rcases hp with ⟨p1, p2⟩ | ⟨p1, Bo, Wo, Ro, Lo, e', N0, p2, p3, p4, p5⟩
    · exact Or.inl ⟨by rw [z2.2.2.1, cl 10 0 9 (by decide)]; exact p1, by rw [lo 76 _ _ (by decide) (by omega) (by omega) (by omega) (by omega) (by decide)]; exact p2⟩
    · have pM2 : z_pp B Bo Wo Ro Lo e' M2 := z_pp_fr (fun k o s _ b => cl k o s b) p2
      have rel := p2.2.2.2.2.2
      have bo := rel.1.1 c hc.1 hc.2
      have o82 : ∀ it', N 82 0 it' = M 82 0 it' := fun it' => lo _ _ _ (by decide) (by omega) (by omega) (by omega) (by omega) (by decide)
      refine Or.inr ⟨by rw [lo 76 _ _ (by decide) (by omega) (by omega) (by omega) (by omega) (by decide)]; exact p1, Bo, Wo, Ro, Lo, e', N0, z3 pM2, ⟨?_, fun c' c0 c1 => ?_, fun c' j c0 c1 j0 j1 j2 => ?_⟩, l_cp_fr p4 (fun k s q => lo _ _ _ (by omega) (by omega) (by omega) (by omega) (by omega) (by omega)), fun c' j c0 c1 j0 j1 => ?_⟩
      · rw [lo 76 _ _ (by decide) (by omega) (by omega) (by omega) (by omega) (by decide), lo 76 _ _ (by decide) (by omega) (by omega) (by omega) (by omega) (by decide)]; exact p3.1
      · have t := p3.2.1 c' c0 c1
        have f : ∀ (k : Nat) (s : Int), (k = 80 ∨ k = 81 ∨ (k = 76 ∧ 5 ≤ s)) → N k 0 s = M k 0 s := fun k s q => lo _ _ _ (by omega) (by omega) (by omega) (by omega) (by omega) (by omega)
        refine ⟨fun n0 => ⟨?_, fun q q0 q1 => by rw [f 80 _ (Or.inl rfl)]; exact (t.1 n0).2 q q0 q1⟩, fun n0 => by rw [f 76 _ (by omega)]; exact t.2 n0⟩
        obtain ⟨o1, o2, o3, o4, o5, o6, o7, o8⟩ := (t.1 n0).1
        exact ⟨by rw [f 76 33 (by omega)]; exact o1, o2, by rw [f 76 _ (by omega)]; exact o3, fun k a b => by rw [f 81 _ (by omega)]; exact o4 k a b, by rw [f 81 _ (by omega), f 76 33 (by omega)]; exact o5, o6, by rw [f 76 _ (by omega)]; exact o7, by rw [f 76 _ (by omega)]; exact o8⟩
      · rw [e7]
        by_cases e : 10 * c' + j = 10 * c + i
        · have bb := rel.1.1 c' c0 c1
          have l10 := (hB.1 c' c0 c1).1.2
          have ec : c' = c ∧ j = i := by omega
          obtain ⟨rfl, rfl⟩ := ec
          have lt : j < B 0 c' := by omega
          have mo := p5 c' j c0 c1 j0 j2
          have sr := rel.2 (10 * c' + j) (by omega) (by omega) (by rw [show (10 * c' + j) / 10 = c' by omega]; omega)
          rw [if_pos rfl, ex, v65d lt, o82]
          exact ⟨fun q => by omega, fun q => by omega⟩
        · rw [if_neg e]
          have bb := rel.1.1 c' c0 c1
          have l6' := (b3.1 c' c0 c1).1
          have ne : 6 * c' + j ≠ 6 * c + i := by omega
          rw [e65 (6 * c' + j) (by omega) (by omega) ne, o82]
          exact p3.2.2 c' j c0 c1 j0 (by omega) j2
      · rw [o82]
        have mo := p5 c' j c0 c1 j0 j1
        have bb := rel.1.1 c' c0 c1
        have l6' := (b3.1 c' c0 c1).1
        by_cases e : 6 * c' + j = 6 * c + i
        · have ec : c' = c ∧ j = i := by omega
          obtain ⟨rfl, rfl⟩ := ec
          rw [ex, v65d (by omega)]
          omega
        · rw [e65 _ (by omega) (by omega) e]; exact mo
end
