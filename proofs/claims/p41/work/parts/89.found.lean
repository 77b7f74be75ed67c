/-! ===== Composer.textFor, findWidths, the widths that a round takes ===== -/
theorem t22 {d : Nat} {h : qH} (hS : qSe h) {p q : Int} {M : qM} {F : Int → qM → Prop} (hp : 0 ≤ p ∧ p ≤ 1000) (hq : 0 ≤ q ∧ q ≤ 1000) (H : F (if q = 0 then 0 else b_tf p q) M) : e22 (d + 1) h p q M F := by
  refine w22 hS ⟨fun z => ?_, fun z => ⟨fun y => ?_, fun y => ⟨⟨by omega, by omega⟩, fun _ => hp.1, fun x hx => ⟨fun _ => ⟨by omega, by omega⟩, fun t ht => ?_⟩⟩⟩⟩
  · rw [if_pos z] at H; exact H
  · rw [if_neg z] at H
    have : b_tf p q = 1 := by unfold b_tf; rw [if_pos y.symm]
    rw [this] at H; exact H
  · rw [if_neg z] at H
    have : t = b_tf p q := by
      unfold b_tf
      rw [if_neg (fun w => y w.symm), ht, hx]
      by_cases a : q = p + 1
      · rw [if_pos a]
        by_cases b : p % 2 = 1
        · rw [if_pos b, if_neg (by decide), if_pos ⟨a, b⟩]
        · rw [if_neg b, if_pos rfl, if_neg (fun w => b w.2)]
      · rw [if_neg a, if_pos rfl, if_neg (fun w => a w.1)]
    rw [this]; exact H
/-- what is listed at v -/
theorem b_n_sur {K : Int → Int} : ∀ (n : Nat) (v : Int), 0 ≤ v → v < b_n K n → ∃ y : Int, (0 ≤ y ∧ y < n) ∧ b_ch K y = 1 ∧ b_n K y = v := by
  intro n
  induction n with
  | zero => intro v v0 v1; exact absurd v1 (by have : b_n K ((0 : Nat) : Int) = 0 := rfl; omega)
  | succ n ih =>
    intro v v0 v1
    have s := p_sum_s (g := b_ch K) (x := (n : Int)) (by omega)
    have bb := b_ch_b (K := K) (x := (n : Int))
    have e : b_n K ((n + 1 : Nat) : Int) = p_sum (b_ch K) ((n : Int) + 1) := by unfold b_n; rw [show ((n + 1 : Nat) : Int) = (n : Int) + 1 by omega]
    have e2 : b_n K (n : Int) = p_sum (b_ch K) (n : Int) := rfl
    by_cases q : v < b_n K (n : Int)
    · obtain ⟨y, y1, y2, y3⟩ := ih v v0 q
      exact ⟨y, ⟨y1.1, by omega⟩, y2, y3⟩
    · exact ⟨n, ⟨by omega, by omega⟩, by omega, by omega⟩
theorem b_n_sur6 {K : Int → Int} {v : Int} (h : 0 ≤ v ∧ v < b_n K 600) : ∃ y, (0 ≤ y ∧ y < 600) ∧ b_ch K y = 1 ∧ b_n K y = v := b_n_sur 600 v h.1 h.2
theorem b_n_inj {K : Int → Int} {y z : Int} (hy : 0 ≤ y) (hz : 0 ≤ z) (cy : b_ch K y = 1) (cz : b_ch K z = 1) (h : b_n K y = b_n K z) : y = z := by
  by_cases q : y < z
  · have := b_n_lt (K := K) ⟨hy, q⟩ cy; omega
  · by_cases q2 : z < y
    · have := b_n_lt (K := K) ⟨hz, q2⟩ cz; omega
    · omega
/-- the list, without the widths -/
def b_ls (K : Int → Int) (M : qM) : Prop := M 2 0 3 = b_n K 600 ∧ ∀ y, 0 ≤ y → y < 600 → b_ch K y = 1 → M 16 0 (b_n K y) = y
theorem b_cw_k {K V : Int → Int} {M : qM} {y : Int} (hw : b_cw K V M) (hy : 0 ≤ y ∧ y < 600) (hK : K y ≠ 0) : M 33 (1 + y / 20) (y % 20) = K y ∧ M 34 (1 + y / 20) (y % 20) = V y ∧ y % 20 < M 5 (1 + y / 20) 2 ∧ y / 20 % 10 < M 1 (y / 200) 1 := by
  have ky := hw y hy.1 hy.2
  by_cases q : y / 20 % 10 < M 1 (y / 200) 1 ∧ y % 20 < M 5 (1 + y / 20) 2
  · rw [if_pos q] at ky; exact ⟨ky.1, ky.2 hK, q.2, q.1⟩
  · rw [if_neg q] at ky; exact absurd ky.1.symm hK
theorem b_ch_ne {K : Int → Int} {y : Int} (h : b_ch K y = 1) : K y = 2 ∨ K y = 6 := by
  unfold b_ch at h
  by_cases q : K y = 2 ∨ K y = 6
  · exact q
  · rw [if_neg q] at h; omega
theorem t23 {d : Nat} {h : qH} (hS : qSe h) {K V : Int → Int} {e r : Int} {M : qM} {F : qM → Prop} (hw : b_cw K V M) (hl : b_ls K M) (h6 : 0 < M 2 0 6) (he : 0 ≤ e) (h7 : M 2 0 7 = e + 1) (h180 : b_n K 600 ≤ 180) (ht : ∀ y, 0 ≤ y → y < 600 → K y = 6 → 0 ≤ M 25 e y ∧ M 25 e y ≤ 10000)
    (H : ∀ M', fr12 18 r M M' → (∀ y, 0 ≤ y → y < 600 → b_ch K y = 1 → M' 18 r (b_n K y) = if K y = 2 then b_dg (M 26 e y) else b_tw (M 25 e y)) → F M') : e23 (d + 3) h r M F := by
  refine w23 hS ?_
  have b0 : 0 ≤ b_n K 600 := by
    have := b_sum_le (g := b_ch K) (a := 0) (b := 600) (fun _ => b_ch_b) (by omega) (by omega)
    have z : p_sum (b_ch K) 0 = 0 := rfl
    have nd : b_n K 600 = p_sum (b_ch K) 600 := rfl
    omega
  have pos : ∀ {y}, 0 ≤ y → 0 ≤ b_n K y := fun {y} y0 => by
    have := b_sum_le (g := b_ch K) (a := 0) (b := y) (fun _ => b_ch_b) (by omega) y0
    have z : p_sum (b_ch K) 0 = 0 := rfl
    have nd : b_n K y = p_sum (b_ch K) y := rfl
    omega
  refine q_upto (P := fun v => 0 ≤ v → ∀ M1 u3 u4, fr12 18 r M M1 → (∀ y, 0 ≤ y → y < 600 → b_ch K y = 1 → b_n K y < v → M1 18 r (b_n K y) = if K y = 2 then b_dg (M 26 e y) else b_tw (M 25 e y)) → b23_2 d h F r v u3 u4 M1) (a := 0) (b := b_n K 600) b0 (fun _ M1 u3 u4 O1 v1 => ?_) (fun v v0 v1 ih _ M1 u3 u4 O1 l1 => ?_) (by omega) M _ _ (fun _ _ _ _ => rfl) (fun y y0 _ _ q => by have := pos y0; omega)
  · refine w23_2 hS ⟨fun q => ?_, fun _ => H M1 O1 (fun y y0 y1 hy => v1 y y0 y1 hy (b_n_lt ⟨y0, y1⟩ hy))⟩
    rw [O1 2 0 3 (by omega), hl.1] at q; omega
  · obtain ⟨y, y1, y2, y3⟩ := b_n_sur6 ⟨v0, v1⟩
    have e16 : M1 16 0 v = y := by rw [O1 _ _ _ (by omega), ← y3]; exact hl.2 y y1.1 y1.2 y2
    have e3 : M1 2 0 3 = b_n K 600 := by rw [O1 _ _ _ (by omega)]; exact hl.1
    have e6 : M1 2 0 6 = M 2 0 6 := O1 _ _ _ (by omega)
    have e7 : M1 2 0 7 = e + 1 := by rw [O1 _ _ _ (by omega)]; exact h7
    have ky := b_ch_ne y2
    have cw := b_cw_k hw y1 (by omega)
    have e33 : M1 33 (1 + y / 20) (y % 20) = K y := by rw [O1 _ _ _ (by omega)]; exact cw.1
    have e26 : M1 26 e y = M 26 e y := O1 _ _ _ (by omega)
    have e25 : M1 25 e y = M 25 e y := O1 _ _ _ (by omega)
    refine w23_2 hS ⟨fun _ => ⟨⟨by omega, by omega⟩, ?_⟩, fun q => by omega⟩
    rw [e16]
    have go : ∀ wd, wd = (if K y = 2 then b_dg (M 26 e y) else b_tw (M 25 e y)) → ∀ u3 u4 M2, M2 = qU M1 18 r v wd → b23_2 d h F r (v + 1) u3 u4 M2 := fun wd hwd u3 u4 M2 f2 => by
      refine ih (by omega) M2 u3 u4 (fun k m s q => by rw [f2]; unfold qU; rw [if_neg (by omega)]; exact O1 k m s q) (fun z z0 z1 cz hz => ?_)
      by_cases q : z = y
      · rw [q, y3, f2, qU_s]; exact hwd
      · have : b_n K z ≠ v := fun w => q (b_n_inj z0 y1.1 cz y2 (by rw [w, y3]))
        rw [f2, qU_l (by omega)]; exact l1 z z0 z1 cz (by omega)
    refine t13 hS (by omega) y1 ⟨y1.1, ⟨by omega, by omega⟩, fun x hx => ?_⟩
    rw [e33] at hx
    have kk : x ≠ 0 → K y = 2 := fun q => by
      by_cases z : K y = 2
      · exact z
      · rw [if_neg z] at hx; exact absurd hx q
    rw [e7, show e + 1 - 1 = e by omega, e26, e25]
    refine ⟨fun q => ⟨fun z => by omega, fun _ => ⟨y1, ?_⟩, fun z => by omega⟩, fun q => ⟨fun z => by omega, fun _ => ⟨y1, t148 hS ⟨⟨by omega, by omega⟩, fun M2 f2 => ⟨⟨by omega, by omega⟩, go _ (by rw [if_pos (kk q)]) _ _ M2 f2⟩⟩⟩, fun z => by omega⟩⟩
    · have k6 : K y = 6 := by
        by_cases z : K y = 2
        · rw [if_pos z] at hx; omega
        · omega
      have := ht y y1.1 y1.2 k6
      exact t149 hS ⟨by omega, by omega⟩ ⟨⟨by omega, by omega⟩, fun M2 f2 => ⟨⟨by omega, by omega⟩, go _ (by rw [if_neg (by omega)]) _ _ M2 f2⟩⟩
def fr16 (M M' : qM) : Prop := ∀ (k : Nat) (m s : Int), ¬ k = 35 → M' k m s = M k m s
theorem t16_2 {d : Nat} {h : qH} (hS : qSe h) {K V : Int → Int} {r : Int} {M : qM} {f : Int → qM → Prop} {u3 u4 u5 : qV} (hw : b_cw K V M) (hl : b_ls K M) (h6 : 0 < M 2 0 6) (h180 : b_n K 600 ≤ 180) (hr : 0 ≤ r ∧ r < 13)
    (H : ∀ M' u3 u4 u5, fr16 M M' → (∀ y, 0 ≤ y → y < 600 → b_ch K y = 1 → M' 35 (1 + y / 20) (y % 20) = M 18 r (b_n K y)) → (∀ it s, ¬ (∃ y, (0 ≤ y ∧ y < 600) ∧ b_ch K y = 1 ∧ it = 1 + y / 20 ∧ s = y % 20) → M' 35 it s = M 35 it s) → b16_2 d h f r (M 2 0 3) u3 u4 u5 M') : b16_2 d h f r 0 u3 u4 u5 M := by
  have b0 : 0 ≤ b_n K 600 := by
    have := b_sum_le (g := b_ch K) (a := 0) (b := 600) (fun _ => b_ch_b) (by omega) (by omega)
    have z : p_sum (b_ch K) 0 = 0 := rfl
    have nd : b_n K 600 = p_sum (b_ch K) 600 := rfl
    omega
  have pos : ∀ {y}, 0 ≤ y → 0 ≤ b_n K y := fun {y} y0 => by
    have := b_sum_le (g := b_ch K) (a := 0) (b := y) (fun _ => b_ch_b) (by omega) y0
    have z : p_sum (b_ch K) 0 = 0 := rfl
    have nd : b_n K y = p_sum (b_ch K) y := rfl
    omega
  refine q_upto (P := fun v => 0 ≤ v → ∀ M1 u3 u4 u5, fr16 M M1 → (∀ y, 0 ≤ y → y < 600 → b_ch K y = 1 → b_n K y < v → M1 35 (1 + y / 20) (y % 20) = M 18 r (b_n K y)) → (∀ it s, ¬ (∃ y, (0 ≤ y ∧ y < 600) ∧ b_ch K y = 1 ∧ it = 1 + y / 20 ∧ s = y % 20) → M1 35 it s = M 35 it s) → b16_2 d h f r v u3 u4 u5 M1) (a := 0) (b := b_n K 600) b0 (fun _ M1 u3 u4 u5 O1 v1 w1 => ?_) (fun v v0 v1 ih _ M1 u3 u4 u5 O1 l1 w1 => ?_) (by omega) M _ _ _ (fun _ _ _ _ => rfl) (fun y y0 _ _ q => by have := pos y0; omega) (fun _ _ _ => rfl)
  · have := H M1 u3 u4 u5 O1 (fun y y0 y1 hy => v1 y y0 y1 hy (b_n_lt ⟨y0, y1⟩ hy)) w1
    rw [hl.1] at this; exact this
  · obtain ⟨y, y1, y2, y3⟩ := b_n_sur6 ⟨v0, v1⟩
    have e16 : M1 16 0 v = y := by rw [O1 _ _ _ (by omega), ← y3]; exact hl.2 y y1.1 y1.2 y2
    have e3 : M1 2 0 3 = b_n K 600 := by rw [O1 _ _ _ (by omega)]; exact hl.1
    have e6 : M1 2 0 6 = M 2 0 6 := O1 _ _ _ (by omega)
    refine w16_2 hS ⟨fun _ => ⟨⟨by omega, by omega⟩, ?_⟩, fun q => by omega⟩
    rw [e16]
    refine t13 hS (by omega) y1 ⟨⟨by omega, by omega⟩, ?_⟩
    rw [e16]
    refine ⟨y1.1, hr, ⟨by omega, by omega⟩, ⟨by omega, by omega⟩, fun M2 f2 => ⟨⟨by omega, by omega⟩, ih (by omega) M2 _ _ _ (fun k m s q => by rw [f2, qU_k (by omega)]; exact O1 k m s q) (fun z z0 z1 cz hz => ?_) (fun it s hn => ?_)⟩⟩
    · by_cases q : z = y
      · rw [q, f2, qU_s, y3]; exact O1 _ _ _ (by omega)
      · have q3 : b_n K z ≠ v := fun w => q (b_n_inj z0 y1.1 cz y2 (by rw [w, y3]))
        have : M2 35 (1 + z / 20) (z % 20) = M1 35 (1 + z / 20) (z % 20) := by
          rw [f2]; unfold qU; rw [if_neg (by omega)]
        rw [this]; exact l1 z z0 z1 cz (by omega)
    · have q : ¬ (it = 1 + y / 20 ∧ s = y % 20) := fun z => hn ⟨y, y1, y2, z.1, z.2⟩
      have : M2 35 it s = M1 35 it s := by
        rw [f2]; unfold qU; rw [if_neg (by omega)]
      rw [this]; exact w1 it s hn
