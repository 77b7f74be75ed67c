/-! ===== the relation behind a new item, or one with other words ===== -/
def y_cz (c x n : Int) (k : Nat) (m s : Int) : Prop := (k = 1 ∧ m = c ∧ s = 1) ∨ (k = 64 ∧ m = 0 ∧ s = c) ∨ (k = 10 ∧ m = 0 ∧ (s = 13 ∨ s = 14)) ∨ (k = 11 ∧ m = 0 ∧ (s = 12 ∨ s = 22)) ∨ (k = 5 ∧ m = 0 ∧ s = 2) ∨ (k = 5 ∧ m = 1 + x ∧ ((0 ≤ s ∧ s ≤ 3) ∨ s = 8 ∨ s = 10)) ∨ (k = 35 ∧ m = 1 + x ∧ 0 ≤ s ∧ s < 20) ∨ (32 ≤ k ∧ k ≤ 34 ∧ m = 1 + x ∧ 0 ≤ s ∧ s < n) ∨ (69 ≤ k ∧ k ≤ 71 ∧ m = 0 ∧ 20 * x ≤ s ∧ s < 20 * x + n) ∨ (((65 ≤ k ∧ k ≤ 68) ∨ k = 79) ∧ m = 0 ∧ s = x)
theorem c_rl_np {nn c i x n0 hd nd n : Int} {W K V : Int → Int} {B : pT} {M N : qM} (h : c_rl nn B M) (hnn : nn < 512) (hc : 0 ≤ c ∧ c < 3) (hi : 0 ≤ i ∧ i < 10) (hx : x = 10 * c + i) (hn0 : (n0 = i + 1 ∧ i = B 0 c) ∨ (n0 = B 0 c ∧ i < B 0 c)) (hn : 0 ≤ n ∧ n ≤ 20) (hh : (hd = 1 ∧ n = 0 ∧ 1 ≤ nd ∧ nd ≤ 3) ∨ (hd = 0 ∧ 1 ≤ n)) (hw : ∀ w, 0 ≤ w → w < n → c_word (W w) (K w) (V w)) (hs : p_SF (c_A0 (y_np B c x n0 hd nd n (M 10 0 14 + 1) W K V) c) n0 ≤ 4 ∧ p_SN (c_A0 (y_np B c x n0 hd nd n (M 10 0 14 + 1) W K V) c) n0 ≤ 12 ∧ p_sum (fun i => y_np B c x n0 hd nd n (M 10 0 14 + 1) W K V 3 (10 * c + i)) n0 ≤ 60)
    (F : ∀ (k : Nat) (m s : Int), ¬ c_scr k s → ¬ y_cz c x n k m s → N k m s = M k m s) (v1 : N 1 c 1 = n0 ∧ N 64 0 c = n0) (v2 : N 10 0 14 = M 10 0 14 + 1 ∧ N 10 0 13 = 0 ∧ N 11 0 22 = 0) (v3 : N 5 (1 + x) 0 = hd ∧ N 5 (1 + x) 1 = nd ∧ N 5 (1 + x) 2 = n ∧ N 5 (1 + x) 3 = M 10 0 14 + 1) (v4 : N 65 0 x = hd ∧ N 66 0 x = nd ∧ N 67 0 x = n) (v5 : ∀ w, 0 ≤ w → w < n → (N 32 (1 + x) w = W w ∧ N 33 (1 + x) w = K w ∧ N 34 (1 + x) w = V w) ∧ N 69 0 (20 * x + w) = W w ∧ N 70 0 (20 * x + w) = K w ∧ N 71 0 (20 * x + w) = V w) (v6 : (hd = 0 → N 5 (1 + x) 8 = 0 ∧ N 79 0 x = 0) ∧ (hd ≠ 0 → N 5 (1 + x) 10 = 1 ∧ i = B 0 c)) (v7 : ∀ s, 0 ≤ s → s < 20 → N 35 (1 + x) s = 0) (v8 : (N 68 0 x = M 68 0 x ∧ i = B 0 c) ∨ (N 68 0 x = M 68 0 x + 1 ∧ i < B 0 c)) (v9 : c_dr N) : c_rl (nn + 1) (y_np B c x n0 hd nd n (M 10 0 14 + 1) W K V) N := by
  obtain ⟨⟨h0, hB, hB2⟩, ⟨a1, a2, a3⟩, ⟨b1, b2, b3, b4⟩, h4, ⟨s1, s2, s3, s4, s5, s6, s7⟩, h6, h7⟩ := h
  have ok := y_np_ok (nd := nd) (sr := M 10 0 14 + 1) hB hB2 hc hi hx hn0 hn hh hw hs
  have x5 : y_X5 N = y_X5 M := y_X5_eq (fun k m s q q2 => F k m s q (fun z => q2 (by unfold y_cz at z; unfold y_s5; omega)))
  have n10 := (hB.1 c hc.1 hc.2).1
  have sr0 := h4.1
  have th : ∀ z, 0 ≤ z → z < 30 → z ≠ x → (z % 10 < y_np B c x n0 hd nd n (M 10 0 14 + 1) W K V 0 (z / 10) ↔ z % 10 < B 0 (z / 10)) := fun z z0 z1 zx => by
    rw [y_np_0]
    by_cases e : z / 10 = c
    · rw [if_pos e, e]; omega
    · rw [if_neg e]
  have thx : x % 10 < y_np B c x n0 hd nd n (M 10 0 14 + 1) W K V 0 (x / 10) := by rw [y_np_0, if_pos (by omega)]; omega
  have nx := fun (z : Int) (e : z ≠ x) => y_np_o (B := B) (c := c) (n0 := n0) (hd := hd) (nd := nd) (sr := M 10 0 14 + 1) (W := W) (K := K) (V := V) hn.2 e
  have f5 : ∀ z s, z ≠ x → 0 ≤ z → N 5 (1 + z) s = M 5 (1 + z) s := fun z s e z0 => F _ _ _ (by unfold c_scr; omega) (by unfold y_cz; omega)
  have f3 : ∀ (k : Nat) (z s : Int), 32 ≤ k → k ≤ 35 → z ≠ x → N k (1 + z) s = M k (1 + z) s := fun k z s k0 k1 e => F _ _ _ (by unfold c_scr; omega) (by unfold y_cz; omega)
  have f36 : ∀ z, N 36 z = M 36 z := fun z => by funext s; exact F _ _ _ (by unfold c_scr; omega) (by unfold y_cz; omega)
  have f37 : ∀ z, N 37 z = M 37 z := fun z => by funext s; exact F _ _ _ (by unfold c_scr; omega) (by unfold y_cz; omega)
  have f6 : ∀ (k : Nat) (z : Int), ((65 ≤ k ∧ k ≤ 68) ∨ k = 79) → z ≠ x → N k 0 z = M k 0 z := fun k z q e => F _ _ _ (by unfold c_scr; omega) (by unfold y_cz; omega)
  have f80 : N 80 = M 80 ∧ N 81 = M 81 ∧ N 82 = M 82 ∧ N 83 = M 83 := by
    refine ⟨?_, ?_, ?_, ?_⟩ <;> (funext m s; exact F _ _ _ (by unfold c_scr; omega) (by unfold y_cz; omega))
  have kk : ∀ y, 0 ≤ y → y < 600 → y / 20 ≠ x → c_K (y_np B c x n0 hd nd n (M 10 0 14 + 1) W K V) y = c_K B y := fun y y0 y1 e => by
    have q := nx _ e
    have t := th (y / 20) (by omega) (by omega) e
    rw [show y / 20 / 10 = y / 200 by omega] at t
    have e2 := propext t
    unfold c_K
    rw [q.2.2.1, (q.2.2.2.2 y rfl).1]
    simp only [e2]
  have w5 : ∀ w, 0 ≤ w → w < n → c_word (W w) (K w) (V w) := hw
  refine ⟨⟨⟨by omega, by omega⟩, ok⟩, ⟨⟨fun c' c0 c1 => ?_, fun z z0 z1 => ?_, fun y y0 y1 => ?_⟩, ⟨fun c' c0 c1 => ?_, fun z z0 z1 => ?_, fun y y0 y1 => ?_, ?_⟩, ?_⟩, ⟨v9, y_cg5 (P := c_al) (fun _ => rfl) x5 b2, ⟨⟨fun it j => ?_, fun it => ?_⟩, fun z => ?_, fun j => ?_⟩, y_cg5 (P := c_ed) (fun _ => rfl) x5 b4⟩, ⟨by omega, fun z z0 z1 => ?_, fun z z0 z1 => ?_⟩, ⟨y_cg5 (P := fun M => c_z 0 M ∧ c_z 1 M) (fun _ => rfl) x5 s1, y_cg5 (P := c_bd) (fun _ => rfl) x5 s2, ⟨fun z z0 z1 t => ?_, fun z z0 z1 t => ?_⟩, ⟨fun it j => ?_, fun y y0 y1 t => ?_⟩, ⟨fun z z0 z1 t tq => ?_, ?_, ?_⟩, y_cg5 (P := m_lim) (fun _ => rfl) x5 s6, fun z z0 z1 t tq => ?_⟩, ?_, Or.inl ⟨v2.2.1, v2.2.2⟩⟩
  -- the class' book
  · rw [y_np_0]
    by_cases e : c' = c
    · rw [if_pos e, e]; exact v1.1
    · rw [if_neg e, F _ _ _ (by unfold c_scr; omega) (by unfold y_cz; omega)]; exact a1.1 c' c0 c1
  · by_cases e : z = x
    · rw [e, y_np_1, y_np_2, y_np_3, y_np_7, if_pos rfl, if_pos rfl, if_pos rfl, if_pos rfl]; exact v3
    · have q := nx _ e
      rw [q.1, q.2.1, q.2.2.1, q.2.2.2.1, f5 z 0 e z0, f5 z 1 e z0, f5 z 2 e z0, f5 z 3 e z0]; exact a1.2.1 z z0 z1
  · by_cases e : y / 20 = x
    · by_cases q : y % 20 < n
      · have q' := y_np_w (B := B) (c := c) (n0 := n0) (hd := hd) (nd := nd) (sr := M 10 0 14 + 1) (W := W) (K := K) (V := V) e q
        have v := (v5 (y % 20) (by omega) q).1
        rw [q'.1, q'.2.1, q'.2.2, e]
        exact ⟨v.2.1, v.2.2, v.1⟩
      · have q' := y_np_x (B := B) (c := c) (x := x) (n0 := n0) (hd := hd) (nd := nd) (sr := M 10 0 14 + 1) (W := W) (K := K) (V := V) q
        rw [q'.1, q'.2.1, q'.2.2, F 33 _ _ (by unfold c_scr; omega) (by unfold y_cz; omega), F 34 _ _ (by unfold c_scr; omega) (by unfold y_cz; omega), F 32 _ _ (by unfold c_scr; omega) (by unfold y_cz; omega)]
        exact a1.2.2 y y0 y1
    · have q := (nx _ e).2.2.2.2 y rfl
      rw [q.1, q.2.1, q.2.2, f3 33 _ _ (by decide) (by decide) e, f3 34 _ _ (by decide) (by decide) e, f3 32 _ _ (by decide) (by decide) e]
      exact a1.2.2 y y0 y1
  -- the model's book
  · rw [y_np_0]
    by_cases e : c' = c
    · rw [if_pos e, e]; exact v1.2
    · rw [if_neg e, F _ _ _ (by unfold c_scr; omega) (by unfold y_cz; omega)]; exact a2.1 c' c0 c1
  · by_cases e : z = x
    · rw [e, y_np_1, y_np_2, y_np_3, if_pos rfl, if_pos rfl, if_pos rfl]; exact v4
    · have q := nx _ e
      rw [q.1, q.2.1, q.2.2.1, f6 65 z (by omega) e, f6 66 z (by omega) e, f6 67 z (by omega) e]; exact a2.2.1 z z0 z1
  · by_cases e : y / 20 = x
    · by_cases q : y % 20 < n
      · have q' := y_np_w (B := B) (c := c) (n0 := n0) (hd := hd) (nd := nd) (sr := M 10 0 14 + 1) (W := W) (K := K) (V := V) e q
        have v := (v5 (y % 20) (by omega) q).2
        rw [show 20 * x + y % 20 = y by omega] at v
        rw [q'.1, q'.2.1, q'.2.2]
        exact ⟨v.2.1, v.2.2, v.1⟩
      · have q' := y_np_x (B := B) (c := c) (x := x) (n0 := n0) (hd := hd) (nd := nd) (sr := M 10 0 14 + 1) (W := W) (K := K) (V := V) q
        rw [q'.1, q'.2.1, q'.2.2, F 70 _ _ (by unfold c_scr; omega) (by unfold y_cz; omega), F 71 _ _ (by unfold c_scr; omega) (by unfold y_cz; omega), F 69 _ _ (by unfold c_scr; omega) (by unfold y_cz; omega)]
        exact a2.2.2.1 y y0 y1
    · have q := (nx _ e).2.2.2.2 y rfl
      rw [q.1, q.2.1, q.2.2, F 70 _ _ (by unfold c_scr; omega) (by unfold y_cz; omega), F 71 _ _ (by unfold c_scr; omega) (by unfold y_cz; omega), F 69 _ _ (by unfold c_scr; omega) (by unfold y_cz; omega)]
      exact a2.2.2.1 y y0 y1
  · exact y_cg5 (P := fun M => M 11 0 1 = B 8 0 ∧ M 11 0 2 = B 8 1 ∧ M 11 0 3 = B 8 2) (fun _ => rfl) x5 a2.2.2.2
  · exact y_cg5 (P := c_ms B) (fun _ => rfl) x5 a3
  -- limits
  · by_cases q : it = 1 + x ∧ 0 ≤ j ∧ j < n
    · rw [q.1, (v5 j q.2.1 q.2.2).1.1]; exact (w5 j q.2.1 q.2.2).1
    · rw [F 32 _ _ (by unfold c_scr; omega) (by unfold y_cz; omega)]; exact b3.1.1 it j
  · by_cases q : it = 1 + x
    · rw [q, v3.2.2.1]; exact hn
    · by_cases q0 : it = 0
      · rw [q0]; exact v9.1
      · rw [F 5 _ _ (by unfold c_scr; omega) (by unfold y_cz; omega)]; exact b3.1.2 it
  · by_cases e : z = x
    · rw [e, v4.2.2]; exact hn
    · rw [f6 67 z (by omega) e]; exact b3.2.1 z
  · by_cases q : 20 * x ≤ j ∧ j < 20 * x + n
    · have v := (v5 (j - 20 * x) (by omega) (by omega)).2.1
      rw [show 20 * x + (j - 20 * x) = j by omega] at v
      rw [v]; exact (w5 _ (by omega) (by omega)).1
    · rw [F 69 _ _ (by unfold c_scr; omega) (by unfold y_cz; omega)]; exact b3.2.2 j
  -- serials
  · rw [y_np_7, v2.1]
    have := h4.2.1 z z0 z1
    split <;> omega
  · have := h4.2.2 z z0 z1
    by_cases e : z = x
    · rw [e] at this ⊢; omega
    · rw [f6 68 z (by omega) e]; omega
  -- what was broken, class
  · by_cases e : z = x
    · rw [e, y_np_1, if_pos rfl]
      refine ⟨fun q => Or.inl (v6.1 q).1, fun q => ⟨(v6.2 q).1, ?_⟩⟩
      rw [F 5 _ _ (by unfold c_scr; omega) (by unfold y_cz; omega)]
      exact (s3.2 x (by omega) (by omega) (fun k => by have := (v6.2 q).2; rw [show x / 10 = c by omega] at k; omega)).1
    · have q := nx _ e
      rw [q.1, q.2.2.1, f5 z 8 e z0, f5 z 10 e z0, f5 z 11 e z0, f36, f37]
      exact s3.1 z z0 z1 ((th z z0 z1 e).mp t)
  · by_cases e : z = x
    · rw [e] at t ⊢
      rw [y_np_1, if_pos rfl] at t
      have hd0 : hd ≠ 0 := fun k => t ⟨thx, k⟩
      rw [F 5 _ _ (by unfold c_scr; omega) (by unfold y_cz; omega), f37]
      exact s3.2 x (by omega) (by omega) (fun k => by have := (v6.2 hd0).2; rw [show x / 10 = c by omega] at k; omega)
    · have q := nx _ e
      rw [f5 z 11 e z0, f37]
      exact s3.2 z z0 z1 (fun k => t ⟨(th z z0 z1 e).mpr k.1, by rw [q.1]; exact k.2⟩)
  -- what words take
  · by_cases q : it = 1 + x ∧ 0 ≤ j ∧ j < 20
    · rw [q.1, v7 j q.2.1 q.2.2]; omega
    · rw [F 35 _ _ (by unfold c_scr; omega) (by unfold y_cz; omega)]; exact s4.1 it j
  · by_cases e : y / 20 = x
    · rw [e]; exact v7 _ (by omega) (by omega)
    · rw [f3 35 _ _ (by decide) (by decide) e]
      refine s4.2 y y0 y1 ?_
      unfold b_ch at t ⊢
      rw [kk y y0 y1 e] at t
      exact t
  -- what was broken, model
  · by_cases e : z = x
    · rw [e] at tq ⊢
      rw [y_np_1, if_pos rfl] at tq
      exact Or.inl (v6.1 tq).2
    · have q := nx _ e
      rw [q.2.2.1, f6 79 z (by omega) e, f80.1, f80.2.1, f80.2.2.1, f80.2.2.2]
      rw [q.1] at tq
      exact s5.1 z z0 z1 ((th z z0 z1 e).mp t) tq
  · rw [f80.2.1]; exact s5.2.1
  · exact y_cg5 (P := fun M => ∀ s, -1000 ≤ M 88 0 s ∧ M 88 0 s ≤ 1000) (fun _ => rfl) x5 s5.2.2
  · by_cases e : z = x
    · rw [e] at tq ⊢
      rw [y_np_1, if_pos rfl] at tq
      have v := v6.1 tq
      exact ⟨by rw [v.1, v.2], fun k => absurd v.2 k⟩
    · have q := nx _ e
      rw [q.2.2.1, f6 79 z (by omega) e, f5 z 8 e z0, f36, f80.1]
      rw [q.1] at tq
      exact s7 z z0 z1 ((th z z0 z1 e).mp t) tq
  -- what was printed
  · rcases h6 with h6 | ⟨Bo, Wo, Ro, Lo, e', N0, q1, q2, ⟨r1, r2, r3, r4, r5, r6, r7, r8⟩, q4⟩
    · exact Or.inl (y_cg5 (P := fun M => M 10 0 9 = 0 ∧ M 11 0 73 = 0) (fun _ => rfl) x5 h6)
    · have o120 : N 120 = M 120 := by funext m s; exact F _ _ _ (by unfold c_scr; omega) (by unfold y_cz; omega)
      have bo := r7.1 c hc.1 hc.2
      have neq : x % 10 < Bo 0 (x / 10) → N 68 0 x = M 68 0 x + 1 := fun t => by
        rw [show x / 10 = c by omega] at t
        omega
      refine Or.inr ⟨Bo, Wo, Ro, Lo, e', N0, y_cg5 (P := fun M => M 10 0 9 = e' + 1) (fun _ => rfl) x5 q1, q2, ⟨r1, r2, r3, y_cg5 (P := c_edn Bo Ro (c_tot Bo Ro Lo) e') (fun _ => rfl) x5 r4, c_cpy_fr3 (fun k s q => F k 0 s (by unfold c_scr; omega) (by unfold y_cz; omega)) r5, r6, ⟨fun c' c0 c1 => ?_, fun z z0 z1 t e7 => ?_⟩, fun z z0 z1 t => ?_⟩, fun z z0 z1 t => ?_⟩
      · have := r7.1 c' c0 c1
        rw [y_np_0]
        by_cases e : c' = c
        · rw [e] at this; rw [if_pos e, e]; omega
        · rw [if_neg e]; exact this
      · by_cases e : z = x
        · rw [e] at t e7
          have := (q4 x (by omega) (by omega) t).2
          rw [y_np_7, if_pos rfl] at e7
          omega
        · have q := nx _ e
          rw [q.2.2.2.1] at e7
          have r := r7.2 z z0 z1 t e7
          rw [q.1, q.2.2.1]
          refine ⟨r.1, r.2.1, fun w w0 w1 => ?_⟩
          have nb := hB.2.1 z
          have q' := q.2.2.2.2 (20 * z + w) (by omega)
          rw [q'.1, q'.2.1]
          exact r.2.2 w w0 w1
      · by_cases e : z = x
        · rw [e] at t ⊢
          have q := q4 x (by omega) (by omega) t
          rw [neq t, o120, y_np_7, if_pos rfl]
          exact ⟨fun k => by omega, fun k => by omega⟩
        · rw [f6 68 z (by omega) e, o120, (nx _ e).2.2.2.1]
          exact r8 z z0 z1 t
      · have q := q4 z z0 z1 t
        rw [o120, v2.1]
        refine ⟨?_, by omega⟩
        by_cases e : z = x
        · rw [e] at t q ⊢; rw [neq t]; omega
        · rw [f6 68 z (by omega) e]; exact q.1
