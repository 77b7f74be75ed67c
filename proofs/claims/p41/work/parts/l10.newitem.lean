/-! ===== the class: an item is new, or has other words ===== -/
def z_cz (c x n : Int) (k : Nat) (m s : Int) : Prop := (k = 1 ∧ m = c ∧ s = 1) ∨ (k = 10 ∧ m = 0 ∧ (s = 13 ∨ s = 14)) ∨ (k = 5 ∧ m = 0 ∧ s = 2) ∨ (k = 5 ∧ m = 1 + x ∧ ((0 ≤ s ∧ s ≤ 3) ∨ s = 8 ∨ s = 10)) ∨ (k = 35 ∧ m = 1 + x ∧ 0 ≤ s ∧ s < 20) ∨ (32 ≤ k ∧ k ≤ 34 ∧ m = 1 + x ∧ 0 ≤ s ∧ s < n)
theorem z_cz_f {c x n : Int} {k : Nat} {m s : Int} (h : ¬ z_cz c x n k m s) : ¬ (k = 1 ∧ m = c ∧ s = 1) ∧ ¬ (k = 10 ∧ m = 0 ∧ (s = 13 ∨ s = 14)) ∧ ¬ (k = 5 ∧ m = 0 ∧ s = 2) ∧ ¬ (k = 5 ∧ m = 1 + x ∧ ((0 ≤ s ∧ s ≤ 3) ∨ s = 8 ∨ s = 10)) ∧ ¬ (k = 35 ∧ m = 1 + x ∧ 0 ≤ s ∧ s < 20) ∧ ¬ (32 ≤ k ∧ k ≤ 34 ∧ m = 1 + x ∧ 0 ≤ s ∧ s < n) := by
  unfold z_cz at h
  exact ⟨fun z => h (Or.inl z), fun z => h (Or.inr (Or.inl z)), fun z => h (Or.inr (Or.inr (Or.inl z))), fun z => h (Or.inr (Or.inr (Or.inr (Or.inl z)))), fun z => h (Or.inr (Or.inr (Or.inr (Or.inr (Or.inl z))))), fun z => h (Or.inr (Or.inr (Or.inr (Or.inr (Or.inr z)))))⟩
/-- the book behind it -/
def z_nB (B : pT) (c x n0 hd nd n : Int) (M : qM) : pT := y_np B c x n0 hd nd n (M 10 0 14 + 1) (M 32 0) (M 33 0) (M 34 0)
/-- all that is so behind it -/
def z_new (nn : Int) (B : pT) (c x n0 hd nd n dr : Int) (M N : qM) : Prop := z_cl (nn + 1) (z_nB B c x n0 hd nd n M) N ∧ z_lw M N ∧ (∀ {Bo : pT} {Wo : Int → Int} {Ro : c_R} {Lo e' : Int}, z_pp B Bo Wo Ro Lo e' M → z_pp (z_nB B c x n0 hd nd n M) Bo Wo Ro Lo e' N) ∧ N 10 0 13 = 0 ∧ N 5 0 2 = dr ∧ (∀ (k : Nat) (m s : Int), ¬ z_cz c x n k m s → N k m s = M k m s) ∧ (hd = 0 → N 5 (1 + x) 8 = 0)
set_option maxHeartbeats 4000000 in
theorem z_np {nn c i x n0 hd nd n dr : Int} {B : pT} {M N : qM} (h : z_cl nn B M) (hnn : nn < 100) (hc : 0 ≤ c ∧ c < 3) (hi : 0 ≤ i ∧ i < 10) (hx : x = 10 * c + i) (hn0 : (n0 = i + 1 ∧ i = B 0 c) ∨ (n0 = B 0 c ∧ i < B 0 c)) (hn : 0 ≤ n ∧ n ≤ 20) (hh : (hd = 1 ∧ n = 0 ∧ 1 ≤ nd ∧ nd ≤ 3) ∨ (hd = 0 ∧ 1 ≤ n)) (hw : ∀ w, 0 ≤ w → w < n → c_word (M 32 0 w) (M 33 0 w) (M 34 0 w)) (hs : p_SF (c_A0 (z_nB B c x n0 hd nd n M) c) n0 ≤ 4 ∧ p_SN (c_A0 (z_nB B c x n0 hd nd n M) c) n0 ≤ 12 ∧ p_sum (fun i => z_nB B c x n0 hd nd n M 3 (10 * c + i)) n0 ≤ 60)
    (F : ∀ (k : Nat) (m s : Int), ¬ z_cz c x n k m s → N k m s = M k m s) (v1 : N 1 c 1 = n0) (v2 : N 10 0 14 = M 10 0 14 + 1 ∧ N 10 0 13 = 0) (v3 : N 5 (1 + x) 0 = hd ∧ N 5 (1 + x) 1 = nd ∧ N 5 (1 + x) 2 = n ∧ N 5 (1 + x) 3 = M 10 0 14 + 1) (v5 : ∀ w, 0 ≤ w → w < n → N 32 (1 + x) w = M 32 0 w ∧ N 33 (1 + x) w = M 33 0 w ∧ N 34 (1 + x) w = M 34 0 w) (v6 : (hd = 0 → N 5 (1 + x) 8 = 0) ∧ (hd ≠ 0 → N 5 (1 + x) 10 = 1 ∧ i = B 0 c)) (v7 : ∀ s, 0 ≤ s → s < 20 → N 35 (1 + x) s = 0) (v8 : N 5 0 2 = dr ∧ (dr = 0 ∨ dr = M 5 0 2)) : z_new nn B c x n0 hd nd n dr M N := by
  obtain ⟨h0, ⟨⟨hB, hB2⟩, ⟨a1, a3⟩, b3, b4⟩, dr', b2, h4, ⟨s1, s2, s3, s4⟩, h13⟩ := h
  have ok := y_np_ok (nd := nd) (sr := M 10 0 14 + 1) hB hB2 hc hi hx hn0 hn hh hw hs
  have n10 := (hB.1 c hc.1 hc.2).1
  have sr0 := h4.1
  have thx : x % 10 < z_nB B c x n0 hd nd n M 0 (x / 10) := by show _ < y_np B c x n0 hd nd n _ _ _ _ 0 _; rw [y_np_0, if_pos (by omega)]; omega
  have th : ∀ z, 0 ≤ z → z < 30 → z ≠ x → (z % 10 < z_nB B c x n0 hd nd n M 0 (z / 10) ↔ z % 10 < B 0 (z / 10)) := fun z z0 z1 zx => by
    show z % 10 < y_np B c x n0 hd nd n _ _ _ _ 0 (z / 10) ↔ _
    rw [y_np_0]
    by_cases e : z / 10 = c
    · rw [if_pos e, e]; omega
    · rw [if_neg e]
  have nx := fun (z : Int) (e : z ≠ x) => y_np_o (B := B) (c := c) (n0 := n0) (hd := hd) (nd := nd) (sr := M 10 0 14 + 1) (W := M 32 0) (K := M 33 0) (V := M 34 0) hn.2 e
  have f5 : ∀ z s, z ≠ x → 0 ≤ z → N 5 (1 + z) s = M 5 (1 + z) s := fun z s e z0 => F _ _ _ (by unfold z_cz; omega)
  have f3 : ∀ (k : Nat) (z s : Int), 32 ≤ k → k ≤ 35 → z ≠ x → N k (1 + z) s = M k (1 + z) s := fun k z s k0 k1 e => F _ _ _ (by unfold z_cz; omega)
  have f36 : ∀ z, N 36 z = M 36 z := fun z => by funext s; exact F _ _ _ (by unfold z_cz; omega)
  have f37 : ∀ z, N 37 z = M 37 z := fun z => by funext s; exact F _ _ _ (by unfold z_cz; omega)
  have o : ∀ k : Nat, k ≠ 1 → k ≠ 10 → k ≠ 5 → ¬ (32 ≤ k ∧ k ≤ 35) → N k = M k := fun k a b c' d' => by funext m s; exact F k m s (by unfold z_cz; omega)
  have kk : ∀ y, 0 ≤ y → y < 600 → y / 20 ≠ x → c_K (z_nB B c x n0 hd nd n M) y = c_K B y := fun y y0 y1 e => by
    have q := nx _ e
    have t := th (y / 20) (by omega) (by omega) e
    rw [show y / 20 / 10 = y / 200 by omega] at t
    have e2 := propext t
    have q3 : z_nB B c x n0 hd nd n M 3 (y / 20) = B 3 (y / 20) := q.2.2.1
    have q4 : z_nB B c x n0 hd nd n M 4 y = B 4 y := (q.2.2.2.2 y rfl).1
    unfold c_K
    rw [q3, q4]
    simp only [e2]
  have c0 : ∀ e, c_z e M → c_z e N := fun e z => by
    unfold c_z at *
    rw [o 54 (by decide) (by decide) (by decide) (by decide), o 55 (by decide) (by decide) (by decide) (by decide), o 56 (by decide) (by decide) (by decide) (by decide), o 57 (by decide) (by decide) (by decide) (by decide), o 61 (by decide) (by decide) (by decide) (by decide)]
    exact z
  have e9 : N 10 0 9 = M 10 0 9 := F _ _ _ (by unfold z_cz; omega)
  have lw : z_lw M N := ⟨fun k m s a => F k m s (by unfold z_cz; omega), fun k m s a => F k m s (by unfold z_cz; omega), e9, by omega⟩
  refine ⟨⟨⟨by omega, by omega⟩, ⟨ok, ⟨⟨fun c' c0 c1 => ?_, fun z z0 z1 => ?_, fun y y0 y1 => ?_⟩, ?_⟩, ⟨fun it j => ?_, fun it => ?_⟩, ?_⟩, ⟨by have := dr'.1; omega, fun w w0 w1 => by
    rw [F 32 _ _ (by unfold z_cz; omega), F 33 _ _ (by unfold z_cz; omega), F 34 _ _ (by unfold z_cz; omega)]
    exact dr'.2 w w0 (by omega)⟩, ?_, ⟨by omega, fun z z0 z1 => ?_⟩, ⟨⟨c0 0 s1.1, c0 1 s1.2⟩, ?_, ⟨fun z z0 z1 t => ?_, fun z z0 z1 t => ?_⟩, ⟨fun it j => ?_, fun y y0 y1 t => ?_⟩⟩, Or.inl v2.2⟩, lw, fun {Bo Wo Ro Lo e'} hp => z_pp_lw hp lw ?_, v2.2, v8.1, F, v6.1⟩
  · show N 1 c' 1 = y_np B c x n0 hd nd n _ _ _ _ 0 c'
    rw [y_np_0]
    by_cases e : c' = c
    · rw [if_pos e, e]; exact v1
    · rw [if_neg e, F _ _ _ (by unfold z_cz; omega)]; exact a1.1 c' c0 c1
  · show N 5 (1 + z) 0 = y_np B c x n0 hd nd n _ _ _ _ 1 z ∧ N 5 (1 + z) 1 = y_np B c x n0 hd nd n _ _ _ _ 2 z ∧ N 5 (1 + z) 2 = y_np B c x n0 hd nd n _ _ _ _ 3 z ∧ N 5 (1 + z) 3 = y_np B c x n0 hd nd n _ _ _ _ 7 z
    by_cases e : z = x
    · rw [e, y_np_1, y_np_2, y_np_3, y_np_7, if_pos rfl, if_pos rfl, if_pos rfl, if_pos rfl]; exact v3
    · have q := nx _ e
      rw [q.1, q.2.1, q.2.2.1, q.2.2.2.1, f5 z 0 e z0, f5 z 1 e z0, f5 z 2 e z0, f5 z 3 e z0]; exact a1.2.1 z z0 z1
  · show N 33 (1 + y / 20) (y % 20) = y_np B c x n0 hd nd n _ _ _ _ 4 y ∧ N 34 (1 + y / 20) (y % 20) = y_np B c x n0 hd nd n _ _ _ _ 5 y ∧ N 32 (1 + y / 20) (y % 20) = y_np B c x n0 hd nd n _ _ _ _ 6 y
    by_cases e : y / 20 = x
    · by_cases q : y % 20 < n
      · have q' := y_np_w (B := B) (c := c) (n0 := n0) (hd := hd) (nd := nd) (sr := M 10 0 14 + 1) (W := M 32 0) (K := M 33 0) (V := M 34 0) e q
        have v := v5 (y % 20) (by omega) q
        rw [q'.1, q'.2.1, q'.2.2, e]
        exact ⟨v.2.1, v.2.2, v.1⟩
      · have q' := y_np_x (B := B) (c := c) (x := x) (n0 := n0) (hd := hd) (nd := nd) (sr := M 10 0 14 + 1) (W := M 32 0) (K := M 33 0) (V := M 34 0) q
        rw [q'.1, q'.2.1, q'.2.2, F 33 _ _ (by unfold z_cz; omega), F 34 _ _ (by unfold z_cz; omega), F 32 _ _ (by unfold z_cz; omega)]
        exact a1.2.2 y y0 y1
    · have q := (nx _ e).2.2.2.2 y rfl
      rw [q.1, q.2.1, q.2.2, f3 33 _ _ (by decide) (by decide) e, f3 34 _ _ (by decide) (by decide) e, f3 32 _ _ (by decide) (by decide) e]
      exact a1.2.2 y y0 y1
  · exact ⟨by rw [F _ _ _ (by unfold z_cz; omega)]; exact a3.1, by rw [F _ _ _ (by unfold z_cz; omega)]; exact a3.2.1, by rw [F _ _ _ (by unfold z_cz; omega)]; exact a3.2.2⟩
  · by_cases q : it = 1 + x ∧ 0 ≤ j ∧ j < n
    · rw [q.1, (v5 j q.2.1 q.2.2).1]; exact (hw j q.2.1 q.2.2).1
    · rw [F 32 _ _ (by unfold z_cz; omega)]; exact b3.1 it j
  · by_cases q : it = 1 + x
    · rw [q, v3.2.2.1]; exact hn
    · by_cases q0 : it = 0
      · rw [q0, v8.1]; have := dr'.1; omega
      · rw [F 5 _ _ (by unfold z_cz; omega)]; exact b3.2 it
  · obtain ⟨e0, h8, he⟩ := b4
    exact ⟨e0, by rw [F _ _ _ (by unfold z_cz; omega)]; exact h8, he⟩
  · unfold z_al; rw [o 63 (by decide) (by decide) (by decide) (by decide)]; exact b2
  · show 0 ≤ y_np B c x n0 hd nd n _ _ _ _ 7 z ∧ y_np B c x n0 hd nd n _ _ _ _ 7 z ≤ N 10 0 14
    rw [y_np_7, v2.1]
    have := h4.2 z z0 z1
    split <;> omega
  · unfold c_bd; rw [o 41 (by decide) (by decide) (by decide) (by decide), o 40 (by decide) (by decide) (by decide) (by decide)]; exact s2
  · by_cases e : z = x
    · rw [e]
      have e1 : z_nB B c x n0 hd nd n M 1 x = hd := by show y_np B c x n0 hd nd n _ _ _ _ 1 x = hd; rw [y_np_1, if_pos rfl]
      rw [e1]
      refine ⟨fun q => Or.inl (v6.1 q), fun q => ⟨(v6.2 q).1, ?_⟩⟩
      rw [F 5 _ _ (by unfold z_cz; omega)]
      exact (s3.2 x (by omega) (by omega) (fun k => by have := (v6.2 q).2; rw [show x / 10 = c by omega] at k; omega)).1
    · have q := nx _ e
      have e1 : z_nB B c x n0 hd nd n M 1 z = B 1 z := q.1
      have e3 : z_nB B c x n0 hd nd n M 3 z = B 3 z := q.2.2.1
      rw [e1, e3, f5 z 8 e z0, f5 z 10 e z0, f5 z 11 e z0, f36, f37]
      exact s3.1 z z0 z1 ((th z z0 z1 e).mp t)
  · by_cases e : z = x
    · rw [e] at t ⊢
      have e1 : z_nB B c x n0 hd nd n M 1 x = hd := by show y_np B c x n0 hd nd n _ _ _ _ 1 x = hd; rw [y_np_1, if_pos rfl]
      rw [e1] at t
      have hd0 : hd ≠ 0 := fun k => t ⟨thx, k⟩
      rw [F 5 _ _ (by unfold z_cz; omega), f37]
      exact s3.2 x (by omega) (by omega) (fun k => by have := (v6.2 hd0).2; rw [show x / 10 = c by omega] at k; omega)
    · have q := nx _ e
      have e1 : z_nB B c x n0 hd nd n M 1 z = B 1 z := q.1
      rw [e1] at t
      rw [f5 z 11 e z0, f37]
      exact s3.2 z z0 z1 (fun k => t ⟨(th z z0 z1 e).mpr k.1, k.2⟩)
  · by_cases q : it = 1 + x ∧ 0 ≤ j ∧ j < 20
    · rw [q.1, v7 j q.2.1 q.2.2]; omega
    · rw [F 35 _ _ (by unfold z_cz; omega)]; exact s4.1 it j
  · by_cases e : y / 20 = x
    · rw [e]; exact v7 _ (by omega) (by omega)
    · rw [f3 35 _ _ (by decide) (by decide) e]
      refine s4.2 y y0 y1 ?_
      unfold b_ch at t ⊢
      rw [kk y y0 y1 e] at t
      exact t
  · -- what was printed
    have q4 := hp.2.2.2.2.2.2
    have r7 := hp.2.2.2.2.2.1
    refine ⟨fun c' c0 c1 => ?_, fun z z0 z1 t e7 => ?_⟩
    · have := r7.1 c' c0 c1
      show Bo 0 c' ≤ y_np B c x n0 hd nd n _ _ _ _ 0 c'
      rw [y_np_0]
      by_cases e : c' = c
      · rw [e] at this; rw [if_pos e, e]; omega
      · rw [if_neg e]; exact this
    · have e7' : y_np B c x n0 hd nd n (M 10 0 14 + 1) (M 32 0) (M 33 0) (M 34 0) 7 z = Bo 7 z := e7
      by_cases e : z = x
      · rw [e] at t e7'
        have := q4 x (by omega) (by omega) t
        rw [y_np_7, if_pos rfl] at e7'
        omega
      · have q := nx _ e
        rw [q.2.2.2.1] at e7'
        have r := r7.2 z z0 z1 t e7'
        show y_np B c x n0 hd nd n (M 10 0 14 + 1) (M 32 0) (M 33 0) (M 34 0) 1 z = Bo 1 z ∧ y_np B c x n0 hd nd n (M 10 0 14 + 1) (M 32 0) (M 33 0) (M 34 0) 3 z = Bo 3 z ∧ ∀ w, 0 ≤ w → w < y_np B c x n0 hd nd n (M 10 0 14 + 1) (M 32 0) (M 33 0) (M 34 0) 3 z → y_np B c x n0 hd nd n (M 10 0 14 + 1) (M 32 0) (M 33 0) (M 34 0) 4 (20 * z + w) = Bo 4 (20 * z + w) ∧ y_np B c x n0 hd nd n (M 10 0 14 + 1) (M 32 0) (M 33 0) (M 34 0) 5 (20 * z + w) = Bo 5 (20 * z + w)
        rw [q.1, q.2.2.1]
        refine ⟨r.1, r.2.1, fun w w0 w1 => ?_⟩
        have nb := hB.2.1 z
        have q' := q.2.2.2.2 (20 * z + w) (by omega)
        rw [q'.1, q'.2.1]
        exact r.2.2 w w0 w1
section
variable {d : Nat} {h : qH} {B : pT} {nn : Int} {M : qM} {F : Int → qH → qM → Prop} {c : Int}
set_option maxHeartbeats 4000000 in
theorem C155 (hS : qSe h) (hz : z_cl nn B M) (hnn : nn < 100) (H1 : 0 ≤ c ∧ c < 3 → B 0 c < 10 → y_fit B c (-1) (M 33 0) (M 34 0) (M 5 0 2) → ∀ N, z_new nn B c (10 * c + B 0 c) (B 0 c + 1) 0 (B 2 (10 * c + B 0 c)) (M 5 0 2) 0 M N → F (B 0 c) h N) (H2 : 0 ≤ c ∧ c < 3 → ¬ (B 0 c < 10 ∧ y_fit B c (-1) (M 33 0) (M 34 0) (M 5 0 2)) → F (-7300) (lBh h) M) (H0 : ¬ (0 ≤ c ∧ c < 3) → F (-7100) (lBh h) M) : e155 (d + 6) h c M F := by
  obtain ⟨d1, d3⟩ := hz.2.2.1
  have bk := hz.2.1.2.1.1
  have hB := hz.2.1.1.1
  have hB2 := hz.2.1.1.2
  have sr := hz.2.2.2.2.1.1
  refine W155 (w100 hS (t133 hS (fun qc => ⟨qc, ?_⟩) (fun qc => l_g2 (H0 qc))))
  have n10 := (hB.1 c qc.1 qc.2).1
  have e1 := bk.1 c qc.1 qc.2
  rw [e1]
  refine ⟨fun q10 => t141 hS hB bk qc (by decide) rfl d1 (fun w w0 w1 => (d3 w w0 w1).2.2.1) (fun fit => ⟨fun z => absurd z (by decide), fun _ => ⟨qc, ?_⟩⟩) (fun fit => ⟨fun _ => w100_28 hS (l_g1 (H2 qc (fun k => fit k.2))), fun z => absurd rfl z⟩), fun q10 => w100_28 hS (l_g1 (H2 qc (fun k => q10 k.1)))⟩
  have h0 := hz.1
  refine t140 hS (i := B 0 c) (sr := M 10 0 14) e1 ⟨by omega, by omega⟩ rfl ⟨by omega, by omega⟩ (fun M1 O1 a1 a14 a3 a13 => t45 hS (n := M 5 0 2) (by omega) (O1 _ _ _ (by omega) (by omega) (by omega)) d1 (fun M2 O2 b0 b2 b8 b35 bw M3 f3 => ⟨qc, ?_⟩))
  have O3 : ∀ (k : Nat) (m s : Int), ¬ (k = 5 ∧ m = 0 ∧ s = 2) → M3 k m s = M2 k m s := fun k m s q => by rw [f3]; unfold qU; rw [if_neg q]
  have e3 : M3 1 c 1 = B 0 c + 1 := by rw [O3 _ _ _ (by omega), O2 _ _ _ (by omega) (by omega) (by omega)]; exact a1
  rw [e3, show B 0 c + 1 - 1 = B 0 c by omega]
  have e5 : (1 : Int) + 10 * c + B 0 c = 1 + (10 * c + B 0 c) := by omega
  rw [e5] at O1 O2 a3 b0 b2 b8 b35 bw
  have bkx := bk.2.1 (10 * c + B 0 c) (by omega) (by omega)
  refine ⟨⟨by omega, by omega⟩, H1 qc q10 fit M3 (z_np (i := B 0 c) hz hnn qc ⟨by omega, by omega⟩ rfl (Or.inl ⟨rfl, rfl⟩) d1 (Or.inr ⟨rfl, by have := fit.1; omega⟩) d3 (y_np_lim ⟨n10.1, by omega⟩ rfl (Or.inl ⟨rfl, rfl, rfl⟩) n10 d1 hB.2.1 fit.2.2.2.1 fit.2.2.1 fit.2.1) (fun k m s q => ?_) e3 ⟨?_, ?_⟩ ⟨?_, ?_, ?_, ?_⟩ (fun w w0 w1 => ⟨?_, ?_, ?_⟩) ⟨fun _ => ?_, fun z => absurd rfl z⟩ (fun s s0 s1 => ?_) ?_)⟩
  · obtain ⟨n1, n2, n3, n4, n5, n6⟩ := z_cz_f q
    rw [O3 k m s n3, O2 k m s (fun z => n4 ⟨z.1, z.2.1, by rcases z.2.2 with e | e | e <;> simp [e]⟩) (fun z => n5 ⟨z.1, z.2.1, z.2.2⟩) (fun z => n6 ⟨z.1, z.2.1, z.2.2.1, z.2.2.2⟩), O1 k m s n1 n2 (fun z => n4 ⟨z.1, z.2.1, by simp [z.2.2]⟩)]
  · rw [O3 _ _ _ (by omega), O2 _ _ _ (by omega) (by omega) (by omega)]; exact a14
  · rw [O3 _ _ _ (by omega), O2 _ _ _ (by omega) (by omega) (by omega)]; exact a13
  · rw [O3 _ _ _ (by omega)]; exact b0
  · rw [O3 _ _ _ (by omega), O2 _ _ _ (by omega) (by omega) (by omega), O1 _ _ _ (by omega) (by omega) (by omega)]; exact bkx.2.1
  · rw [O3 _ _ _ (by omega)]; exact b2
  · rw [O3 _ _ _ (by omega), O2 _ _ _ (by omega) (by omega) (by omega)]; exact a3
  · rw [O3 _ _ _ (by omega), (bw w w0 w1).1]; exact O1 _ _ _ (by omega) (by omega) (by omega)
  · rw [O3 _ _ _ (by omega), (bw w w0 w1).2.1]; exact O1 _ _ _ (by omega) (by omega) (by omega)
  · rw [O3 _ _ _ (by omega), (bw w w0 w1).2.2]; exact O1 _ _ _ (by omega) (by omega) (by omega)
  · rw [O3 _ _ _ (by omega)]; exact b8
  · rw [O3 _ _ _ (by omega)]; exact b35 s s0 s1
  · exact ⟨by rw [f3, qU_s], Or.inl rfl⟩
set_option maxHeartbeats 4000000 in
theorem C156 {lv nd : Int} (hS : qSe h) (hz : z_cl nn B M) (hnn : nn < 100) (H1 : 0 ≤ c ∧ c < 3 → ((0 ≤ lv ∧ lv ≤ 1) ∧ 1 ≤ nd ∧ nd ≤ 3) → B 0 c < 10 → ∀ N, z_new nn B c (10 * c + B 0 c) (B 0 c + 1) 1 nd 0 (M 5 0 2) M N → F (B 0 c) h N) (H2 : 0 ≤ c ∧ c < 3 → ((0 ≤ lv ∧ lv ≤ 1) ∧ 1 ≤ nd ∧ nd ≤ 3) → ¬ B 0 c < 10 → F (-7300) (lBh h) M) (H3 : 0 ≤ c ∧ c < 3 → ¬ ((0 ≤ lv ∧ lv ≤ 1) ∧ 1 ≤ nd ∧ nd ≤ 3) → F (-7200) (lBh h) M) (H0 : ¬ (0 ≤ c ∧ c < 3) → F (-7100) (lBh h) M) : e156 (d + 3) h c lv nd M F := by
  have bk := hz.2.1.2.1.1
  have hB := hz.2.1.1.1
  have hB2 := hz.2.1.1.2
  have sr := hz.2.2.2.2.1.1
  have h0 := hz.1
  refine W156 (w101 hS (t133 hS (fun qc => ⟨fun z => w101_24 hS (l_g0 (H3 qc (by omega))), fun z1 => ⟨fun z2 => ⟨fun z => w101_24 hS (l_g0 (H3 qc (by omega))), fun z3 => ⟨fun z4 => ⟨qc, ?_⟩, fun z => w101_24 hS (l_g0 (H3 qc (by omega)))⟩⟩, fun z => w101_24 hS (l_g0 (H3 qc (by omega)))⟩⟩) (fun qc => l_g2 (H0 qc))))
  have n10 := (hB.1 c qc.1 qc.2).1
  have e1 := bk.1 c qc.1 qc.2
  rw [e1]
  refine ⟨fun q10 => ⟨qc, ?_⟩, fun q10 => l_g1 (H2 qc (by omega) q10)⟩
  refine t140 hS (i := B 0 c) (sr := M 10 0 14) e1 ⟨by omega, by omega⟩ rfl ⟨by omega, by omega⟩ (fun M1 O1 a1 a14 a3 a13 => t46 hS (fun M2 O2 b0 b1 b10 => ⟨qc, ?_⟩))
  have e5 : (1 : Int) + 10 * c + B 0 c = 1 + (10 * c + B 0 c) := by omega
  rw [e5] at O1 O2 a3 b0 b1 b10
  have e3 : M2 1 c 1 = B 0 c + 1 := by rw [O2 _ _ _ (by omega)]; exact a1
  rw [e3, show B 0 c + 1 - 1 = B 0 c by omega]
  have nt : ¬ (10 * c + B 0 c) % 10 < B 0 ((10 * c + B 0 c) / 10) := by rw [show (10 * c + B 0 c) / 10 = c by omega]; omega
  have bx := hB2 (10 * c + B 0 c) (by omega) (by omega) nt
  have bkx := bk.2.1 (10 * c + B 0 c) (by omega) (by omega)
  have cs := y_cs_lim hB qc
  have zw : ∀ t, y_ws (M 33 0) (M 34 0) t 0 = 0 := fun t => p_sum_0
  have z35 := hz.2.2.2.2.2.1.2.2.2
  refine ⟨⟨by omega, by omega⟩, H1 qc (by omega) q10 M2 (z_np (i := B 0 c) hz hnn qc ⟨by omega, by omega⟩ rfl (Or.inl ⟨rfl, rfl⟩) ⟨Int.le_refl _, by decide⟩ (Or.inl ⟨rfl, rfl, by omega, z4⟩) (fun w w0 w1 => by omega) (y_np_lim ⟨n10.1, by omega⟩ rfl (Or.inl ⟨rfl, rfl, rfl⟩) n10 ⟨Int.le_refl _, by decide⟩ hB.2.1 (by rw [zw 3]; omega) (by rw [zw 2]; omega) (by omega)) (fun k m s q => ?_) e3 ⟨?_, ?_⟩ ⟨b0, b1, ?_, ?_⟩ (fun w w0 w1 => by omega) ⟨fun z => absurd z (by decide), fun _ => ⟨b10, rfl⟩⟩ (fun s s0 s1 => ?_) ⟨?_, Or.inr rfl⟩)⟩
  · obtain ⟨n1, n2, n3, n4, n5, n6⟩ := z_cz_f q
    rw [O2 k m s (fun z => n4 ⟨z.1, z.2.1, by rcases z.2.2 with e | e | e <;> simp [e]⟩), O1 k m s n1 n2 (fun z => n4 ⟨z.1, z.2.1, by simp [z.2.2]⟩)]
  · rw [O2 _ _ _ (by omega)]; exact a14
  · rw [O2 _ _ _ (by omega)]; exact a13
  · rw [O2 _ _ _ (by omega), O1 _ _ _ (by omega) (by omega) (by omega), bkx.2.2.1]; exact bx.2
  · rw [O2 _ _ _ (by omega)]; exact a3
  · have e : (20 * (10 * c + B 0 c) + s) / 20 = 10 * c + B 0 c := by omega
    have e2 : (20 * (10 * c + B 0 c) + s) % 20 = s := by omega
    have nk : b_ch (c_K B) (20 * (10 * c + B 0 c) + s) = 0 := by
      have k0 : c_K B (20 * (10 * c + B 0 c) + s) = 0 := k_K0 (fun t => by
        have := t.2
        rw [e, e2, bx.2] at this
        omega)
      unfold b_ch
      rw [k0]
      rfl
    have := z35.2 (20 * (10 * c + B 0 c) + s) (by omega) (by omega) nk
    rw [e, e2] at this
    rw [O2 _ _ _ (by omega), O1 _ _ _ (by omega) (by omega) (by omega)]
    exact this
  · rw [O2 _ _ _ (by omega), O1 _ _ _ (by omega) (by omega) (by omega)]
set_option maxHeartbeats 4000000 in
theorem C157 {i : Int} (hS : qSe h) (hz : z_cl nn B M) (hnn : nn < 100) (H1 : c_it B c i → B 1 (10 * c + i) = 0 → y_fit B c i (M 33 0) (M 34 0) (M 5 0 2) → ∀ N, z_new nn B c (10 * c + i) (B 0 c) 0 (B 2 (10 * c + i)) (M 5 0 2) 0 M N → F (B 3 (10 * c + i)) h N) (H2 : c_it B c i → ¬ (B 1 (10 * c + i) = 0 ∧ y_fit B c i (M 33 0) (M 34 0) (M 5 0 2)) → F (-7300) (lBh h) M) (H0 : ¬ c_it B c i → F (-7100) (lBh h) M) : e157 (d + 6) h c i M F := by
  obtain ⟨d1, d3⟩ := hz.2.2.1
  have bk := hz.2.1.2.1.1
  have hB := hz.2.1.1.1
  have hB2 := hz.2.1.1.2
  have sr := hz.2.2.2.2.1.1
  have h0 := hz.1
  refine W157 (w102 hS (t134 hS (z_b hz.2.1).2.2 (fun qi => ?_) (fun qi => l_g2 (H0 (fun z => qi ((z_it hz.2.1).mpr z))))))
  have qi := (z_it hz.2.1).mp qi
  have qc := qi.1
  have n10 := (hB.1 c qc.1 qc.2).1
  have e5 : (1 : Int) + 10 * c + i = 1 + (10 * c + i) := by omega
  rw [e5]
  have qi2 := qi.2
  have bkx := bk.2.1 (10 * c + i) (by omega) (by omega)
  refine ⟨fun qh => ?_, fun qh => w102_23 hS (l_g1 (H2 qi (fun k => qh (by rw [bkx.1]; exact k.1))))⟩
  have h1 : B 1 (10 * c + i) = 0 := by rw [← bkx.1]; exact qh
  refine t141 hS hB bk qc ⟨by omega, by omega⟩ rfl d1 (fun w w0 w1 => (d3 w w0 w1).2.2.1) (fun fit => ⟨fun z => absurd z (by decide), fun _ => ⟨⟨by omega, by omega⟩, fun M1 f1 M2 f2 => ?_⟩⟩) (fun fit => ⟨fun _ => w102_23 hS (l_g1 (H2 qi (fun k => fit k.2))), fun z => absurd rfl z⟩)
  have O2 : ∀ (k : Nat) (m s : Int), ¬ (k = 10 ∧ m = 0 ∧ s = 14) → ¬ (k = 5 ∧ m = 1 + (10 * c + i) ∧ s = 3) → M2 k m s = M k m s := fun k m s q q2 => by rw [f2, f1]; unfold qU; rw [if_neg (by omega), if_neg (by omega)]
  have a14 : M2 10 0 14 = M 10 0 14 + 1 := by rw [f2, qU_k (by decide), f1, qU_s]
  have a3 : M2 5 (1 + (10 * c + i)) 3 = M 10 0 14 + 1 := by rw [f2, qU_s, f1, qU_s]
  refine t45 hS (n := M 5 0 2) (by omega) (O2 _ _ _ (by omega) (by omega)) d1 (fun M3 O3 b0 b2 b8 b35 bw M5 f5 M6 f6 => ?_)
  have O6 : ∀ (k : Nat) (m s : Int), ¬ (k = 5 ∧ m = 0 ∧ s = 2) → ¬ (k = 10 ∧ m = 0 ∧ s = 13) → M6 k m s = M3 k m s := fun k m s q q2 => by rw [f6, f5]; unfold qU; rw [if_neg (by omega), if_neg (by omega)]
  have e52 : M 5 (1 + (10 * c + i)) 2 = B 3 (10 * c + i) := bkx.2.2.1
  rw [e52]
  refine H1 qi h1 fit M6 (z_np (i := i) hz hnn qc ⟨by omega, by omega⟩ rfl (Or.inr ⟨rfl, qi.2.2⟩) d1 (Or.inr ⟨rfl, by have := fit.1; omega⟩) d3 (y_np_lim ⟨by omega, by omega⟩ rfl (Or.inr ⟨rfl, qi.2.2, rfl⟩) n10 d1 hB.2.1 fit.2.2.2.1 fit.2.2.1 fit.2.1) (fun k m s q => ?_) ?_ ⟨?_, ?_⟩ ⟨?_, ?_, ?_, ?_⟩ (fun w w0 w1 => ⟨?_, ?_, ?_⟩) ⟨fun _ => ?_, fun z => absurd rfl z⟩ (fun s s0 s1 => ?_) ?_)
  · obtain ⟨n1, n2, n3, n4, n5, n6⟩ := z_cz_f q
    rw [O6 k m s n3 (fun z => n2 ⟨z.1, z.2.1, Or.inl z.2.2⟩), O3 k m s (fun z => n4 ⟨z.1, z.2.1, by rcases z.2.2 with e | e | e <;> simp [e]⟩) (fun z => n5 ⟨z.1, z.2.1, z.2.2⟩) (fun z => n6 ⟨z.1, z.2.1, z.2.2.1, z.2.2.2⟩), O2 k m s (fun z => n2 ⟨z.1, z.2.1, Or.inr z.2.2⟩) (fun z => n4 ⟨z.1, z.2.1, by simp [z.2.2]⟩)]
  · rw [O6 _ _ _ (by omega) (by omega), O3 _ _ _ (by omega) (by omega) (by omega), O2 _ _ _ (by omega) (by omega)]; exact bk.1 c qc.1 qc.2
  · rw [O6 _ _ _ (by omega) (by omega), O3 _ _ _ (by omega) (by omega) (by omega)]; exact a14
  · rw [f6, qU_s]
  · rw [O6 _ _ _ (by omega) (by omega)]; exact b0
  · rw [O6 _ _ _ (by omega) (by omega), O3 _ _ _ (by omega) (by omega) (by omega), O2 _ _ _ (by omega) (by omega)]; exact bkx.2.1
  · rw [O6 _ _ _ (by omega) (by omega)]; exact b2
  · rw [O6 _ _ _ (by omega) (by omega), O3 _ _ _ (by omega) (by omega) (by omega)]; exact a3
  · rw [O6 _ _ _ (by omega) (by omega), (bw w w0 w1).1]; exact O2 _ _ _ (by omega) (by omega)
  · rw [O6 _ _ _ (by omega) (by omega), (bw w w0 w1).2.1]; exact O2 _ _ _ (by omega) (by omega)
  · rw [O6 _ _ _ (by omega) (by omega), (bw w w0 w1).2.2]; exact O2 _ _ _ (by omega) (by omega)
  · rw [O6 _ _ _ (by omega) (by omega)]; exact b8
  · rw [O6 _ _ _ (by omega) (by omega)]; exact b35 s s0 s1
  · exact ⟨by rw [f6, qU_k (by decide), f5, qU_s], Or.inl rfl⟩
end
