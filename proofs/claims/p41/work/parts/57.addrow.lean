/-! ===== Rows.addRow, lateHeadBy ===== -/
def p_rI (A : pA) (n r : Int) (M : qM) : Prop := M 9 n 0 = r ∧ (∀ q, 0 ≤ q → q < r → M 48 n q = p_ri A q ∧ M 49 n q = p_fr A q ∧ M 50 n q = p_to A q ∧ M 51 n q = p_nd A q ∧ M 52 n q = p_f1 A q ∧ M 53 n q = p_l1 A q) ∧ ∀ q, 0 ≤ q → q ≤ r → M 54 n q = p_bl A q ∧ M 55 n q = p_fl A q ∧ M 56 n q = p_nl A q ∧ M 57 n q = p_ls A q
def fr89 (n : Int) (M M' : qM) : Prop := ∀ (k : Nat) (m s : Int), ¬ ((k = 9 ∧ m = n ∧ (s = 0 ∨ s = 12 ∨ s = 16 ∨ s = 17)) ∨ (48 ≤ k ∧ k ≤ 61 ∧ k ≠ 58 ∧ m = n)) → M' k m s = M k m s
theorem p_bl_bd {A : pA} {r : Int} (h : 0 ≤ r) : 0 ≤ p_bl A r ∧ p_bl A r ≤ r := by
  have key : ∀ t : Nat, 0 ≤ p_sumN (p_ib A) t ∧ p_sumN (p_ib A) t ≤ t := by
    intro t
    induction t with
    | zero => exact ⟨Int.le_refl _, Int.le_refl _⟩
    | succ t ih =>
      show 0 ≤ p_sumN (p_ib A) t + p_ib A t ∧ p_sumN (p_ib A) t + p_ib A t ≤ _
      have : 0 ≤ p_ib A t ∧ p_ib A t ≤ 1 := by unfold p_ib; split <;> (try split) <;> omega
      omega
  have := key r.toNat
  unfold p_bl p_sum
  omega
theorem p_fr_to {A : pA} {cnt r : Int} (hA : p_okA A cnt) (hi : 0 ≤ p_ri A r ∧ p_ri A r < cnt) (hs : 0 ≤ p_rl A r ∧ p_rl A r < A 2 (p_ri A r) 0) : 0 ≤ p_fr A r ∧ p_fr A r ≤ p_to A r ∧ p_to A r ≤ A 6 (p_ri A r) 0 ∧ (A 0 (p_ri A r) 0 = 0 → p_fr A r < p_to A r) := by
  rcases (hA.2.1 _ hi.1 hi.2).2 with ⟨k1, k2, k3, k4⟩ | ⟨k1, k2, k3, k4, k5, k6⟩
  · unfold p_fr p_to
    rw [k1, if_neg (by decide), if_neg (by decide)]
    omega
  · unfold p_fr p_to
    rw [k1, if_pos rfl, if_pos rfl]
    have a1 := k4 (p_rl A r) hs.1 hs.2
    by_cases hz : p_rl A r = 0
    · rw [if_pos hz]; omega
    · rw [if_neg hz]
      have a2 := k4 (p_rl A r - 1) (by omega) (by omega)
      have a3 := k5 (p_rl A r - 1) (by omega) (by omega)
      rw [show p_rl A r - 1 + 1 = p_rl A r by omega] at a3
      omega
theorem t89 {d : Nat} {h : qH} (hS : qSe h) {A : pA} {cnt n it i s r : Int} {M : qM} {f : qM → Prop} (hA : p_okA A cnt) (hi : 0 ≤ i ∧ i < cnt) (hs : 0 ≤ s ∧ s < A 2 i 0) (hr : p_rep A M it i) (h0 : 0 ≤ r ∧ r < 70)
    (e1 : p_ri A r = i) (e2 : p_rl A r = s) (hR : p_rI A n r M) (hI : p_wI A n i (p_fr A r) M)
    (H : ∀ M', fr89 n M M' → p_rI A n (r + 1) M' → p_wI A n i (p_to A r) M' → f M') : e89 (d + 2) h n it i s M f := by
  have h6 := p_okA_6 hA hi
  have hc := hA.1
  have hft := p_fr_to (r := r) hA (by rw [e1]; exact hi) (by rw [e1, e2]; exact hs)
  rw [e1] at hft
  obtain ⟨r1, r2, r3⟩ := hR
  obtain ⟨p0, p1, p2, p6, p3, p45⟩ := id hr
  refine w89 hS ⟨⟨by omega, by omega⟩, fun M1 f1 => ?_⟩
  rw [r1] at f1 ⊢
  refine ⟨⟨by omega, by omega⟩, fun M2 f2 => ?_⟩
  have it0 : ∀ M3 : qM, (∀ (k : Nat) (m x : Int), ¬ ((k = 9 ∧ m = n ∧ x = 0) ∨ (48 ≤ k ∧ k ≤ 53 ∧ m = n)) → M3 k m x = M k m x) → M3 5 it 0 = A 0 i 0 ∧ M3 5 it 1 = A 1 i 0 ∧ M3 5 it 10 = A 2 i 0 ∧ (∀ s, 0 ≤ s → s < A 2 i 0 → A 0 i 0 = 0 → M3 37 it s = A 3 i s) := fun M3 h3 => ⟨by rw [h3 _ _ _ (by omega)]; exact p0, by rw [h3 _ _ _ (by omega)]; exact p1, by rw [h3 _ _ _ (by omega)]; exact p2, fun s a b c => by rw [h3 _ _ _ (by omega)]; exact p3 s a b c⟩
  have F2 : ∀ (k : Nat) (m x : Int), ¬ ((k = 9 ∧ m = n ∧ x = 0) ∨ (48 ≤ k ∧ k ≤ 53 ∧ m = n)) → M2 k m x = M k m x := fun k m x q => by rw [f2, f1]; unfold qU; rw [if_neg (by omega), if_neg (by omega)]
  obtain ⟨a0, a1, a2, a3⟩ := it0 M2 F2
  refine ⟨fun _ _ => ⟨⟨by omega, by omega⟩, by omega, by omega⟩, fun x hx => ?_⟩
  have hx' : x = p_fr A r := by
    rw [hx, a0]
    unfold p_fr
    rw [e1, e2]
    split
    · split
      · rfl
      · rename_i k1 k2; exact a3 _ (by omega) (by omega) k1
    · rfl
  refine ⟨⟨by omega, by omega⟩, fun M3 f3 => ?_⟩
  have F3 : ∀ (k : Nat) (m x : Int), ¬ ((k = 9 ∧ m = n ∧ x = 0) ∨ (48 ≤ k ∧ k ≤ 53 ∧ m = n)) → M3 k m x = M k m x := fun k m x q => by rw [← F2 k m x q, f3]; unfold qU; rw [if_neg (by omega)]
  obtain ⟨b0, b1, b2, b3⟩ := it0 M3 F3
  refine ⟨fun _ => by omega, fun y hy => ?_⟩
  have hy' : y = p_to A r := by
    rw [hy, b0]
    unfold p_to
    rw [e1, e2]
    split
    · rename_i k1; exact b3 _ hs.1 hs.2 k1
    · rfl
  refine ⟨⟨by omega, by omega⟩, fun M4 f4 z hz => ?_⟩
  have F4 : ∀ (k : Nat) (m x : Int), ¬ ((k = 9 ∧ m = n ∧ x = 0) ∨ (48 ≤ k ∧ k ≤ 53 ∧ m = n)) → M4 k m x = M k m x := fun k m x q => by rw [← F3 k m x q, f4]; unfold qU; rw [if_neg (by omega)]
  obtain ⟨c0, c1, c2, c3⟩ := it0 M4 F4
  have hz' : z = p_nd A r := by rw [hz, c0, c1]; unfold p_nd; rw [e1]
  refine ⟨⟨by omega, by omega⟩, fun M5 f5 u hu => ?_⟩
  have F5 : ∀ (k : Nat) (m x : Int), ¬ ((k = 9 ∧ m = n ∧ x = 0) ∨ (48 ≤ k ∧ k ≤ 53 ∧ m = n)) → M5 k m x = M k m x := fun k m x q => by rw [← F4 k m x q, f5]; unfold qU; rw [if_neg (by omega)]
  obtain ⟨d0, d1, d2, d3⟩ := it0 M5 F5
  have hu' : u = p_f1 A r := by rw [hu, d2]; unfold p_f1; rw [e1, e2]
  have hu2 : u = 0 ∨ u = 1 := by rw [hu]; split <;> (try split) <;> omega
  refine ⟨⟨by omega, by omega, hu2⟩, fun M6 f6 => ?_⟩
  have F6 : ∀ (k : Nat) (m x : Int), ¬ ((k = 9 ∧ m = n ∧ x = 0) ∨ (48 ≤ k ∧ k ≤ 53 ∧ m = n)) → M6 k m x = M k m x := fun k m x q => by rw [← F5 k m x q, f6]; unfold qU; rw [if_neg (by omega)]
  obtain ⟨g0, g1, g2, g3⟩ := it0 M6 F6
  refine ⟨fun _ => ⟨by omega, by omega⟩, fun v hv => ?_⟩
  have hv' : v = p_l1 A r := by rw [hv, g2]; unfold p_l1; rw [e1, e2]
  have hv2 : v = 0 ∨ v = 1 := by rw [hv]; split <;> (try split) <;> omega
  refine ⟨⟨by omega, by omega, hv2⟩, fun M7 f7 => ?_⟩
  have F7 : ∀ (k : Nat) (m x : Int), ¬ ((k = 9 ∧ m = n ∧ x = 0) ∨ (48 ≤ k ∧ k ≤ 53 ∧ m = n)) → M7 k m x = M k m x := fun k m x q => by rw [← F6 k m x q, f7]; unfold qU; rw [if_neg (by omega)]
  -- the new row
  have N48 : ∀ x, M7 48 n x = if x = r then i else M 48 n x := fun x => by rw [f7, f6, f5, f4, f3, f2, f1]; unfold qU; grind
  have N49 : ∀ x, M7 49 n x = if x = r then p_fr A r else M 49 n x := fun x => by rw [← hx', f7, f6, f5, f4, f3, f2, f1]; unfold qU; grind
  have N50 : ∀ x, M7 50 n x = if x = r then p_to A r else M 50 n x := fun x => by rw [← hy', f7, f6, f5, f4, f3, f2, f1]; unfold qU; grind
  have N51 : ∀ x, M7 51 n x = if x = r then p_nd A r else M 51 n x := fun x => by rw [← hz', f7, f6, f5, f4, f3, f2, f1]; unfold qU; grind
  have N52 : ∀ x, M7 52 n x = if x = r then p_f1 A r else M 52 n x := fun x => by rw [← hu', f7, f6, f5, f4, f3, f2, f1]; unfold qU; grind
  have N53 : ∀ x, M7 53 n x = if x = r then p_l1 A r else M 53 n x := fun x => by rw [← hv', f7, f6, f5, f4, f3, f2, f1]; unfold qU; grind
  have N9 : M7 9 n 0 = r + 1 := by rw [f7, f6, f5, f4, f3, f2, f1]; unfold qU; grind
  rw [show M7 49 n r = p_fr A r by rw [N49, if_pos rfl]]
  refine ⟨⟨by omega, by omega⟩, ?_⟩
  refine q_upto (P := fun w => ∀ M8, fr90 n M7 M8 → p_wI A n i w M8 → b89_163 d h f n it i s r w M8) (a := p_fr A r) (b := p_to A r) hft.2.1 ?_ ?_ M7 (fun _ _ _ _ => rfl) ?_
  · intro M8 f8 wi
    have n50 : M8 50 n r = p_to A r := by rw [f8 _ _ _ (by omega), N50, if_pos rfl]
    have n54 : M8 54 n r = p_bl A r := by rw [f8 _ _ _ (by omega), F7 _ _ _ (by omega)]; exact (r3 r h0.1 (Int.le_refl _)).1
    have n9 : M8 9 n 0 = r + 1 := by rw [f8 _ _ _ (by omega), N9]
    have bb := p_bl_bd (A := A) h0.1
    refine w89_163 hS ⟨⟨by omega, by omega⟩, fun q => by omega, fun _ => ⟨⟨by omega, by omega⟩, fun x hx => ?_⟩⟩
    have hx2 : x = p_ib A r := by rw [hx]; unfold p_ib; rw [e1, e2]
    have hx3 : 0 ≤ x ∧ x ≤ 1 := by rw [hx]; split <;> (try split) <;> omega
    rw [n54, n9]
    refine ⟨⟨by omega, by omega⟩, ⟨by omega, by omega⟩, fun M9 f9 => ?_⟩
    have m9 : M9 9 n 0 = r + 1 := by rw [f9, qU_k (by decide), n9]
    rw [m9]
    refine ⟨⟨by omega, by omega⟩, fun M10 f10 => ?_⟩
    have m10 : M10 9 n 0 = r + 1 := by rw [f10, qU_k (by decide), m9]
    rw [m10]
    refine ⟨⟨by omega, by omega⟩, fun M11 f11 => ?_⟩
    have m11 : M11 9 n 0 = r + 1 := by rw [f11, qU_k (by decide), m10]
    rw [m11]
    refine ⟨⟨by omega, by omega⟩, fun M12 f12 => ?_⟩
    have s1 : M9 9 n 12 = p_FB A i (p_to A r) := by rw [f9, qU_k (by decide)]; exact wi.1
    have s2 : M10 9 n 16 = p_NB A i (p_to A r) := by rw [f10, qU_k (by decide), f9, qU_k (by decide)]; exact wi.2.1
    have s3 : M11 9 n 17 = p_LS A i (p_to A r) := by rw [f11, qU_k (by decide), f10, qU_k (by decide), f9, qU_k (by decide)]; exact wi.2.2.1
    rw [s1] at f10
    rw [s2] at f11
    rw [s3] at f12
    have O54 : ∀ x, M12 54 n x = if x = r + 1 then p_bl A (r + 1) else M 54 n x := fun x => by
      have : p_bl A (r + 1) = p_bl A r + p_ib A r := p_sum_s h0.1
      rw [this, ← hx2, f12, f11, f10, f9]
      have := f8 54 n x (by omega)
      have := F7 54 n x (by omega)
      unfold qU; grind
    have O55 : ∀ x, M12 55 n x = if x = r + 1 then p_fl A (r + 1) else M 55 n x := fun x => by
      have : p_fl A (r + 1) = p_FB A i (p_to A r) := by unfold p_fl; rw [if_neg (by omega), show r + 1 - 1 = r by omega, e1]
      rw [this, f12, f11, f10, f9]
      have := f8 55 n x (by omega)
      have := F7 55 n x (by omega)
      unfold qU; grind
    have O56 : ∀ x, M12 56 n x = if x = r + 1 then p_nl A (r + 1) else M 56 n x := fun x => by
      have : p_nl A (r + 1) = p_NB A i (p_to A r) := by unfold p_nl; rw [if_neg (by omega), show r + 1 - 1 = r by omega, e1]
      rw [this, f12, f11, f10, f9]
      have := f8 56 n x (by omega)
      have := F7 56 n x (by omega)
      unfold qU; grind
    have O57 : ∀ x, M12 57 n x = if x = r + 1 then p_ls A (r + 1) else M 57 n x := fun x => by
      have : p_ls A (r + 1) = p_LS A i (p_to A r) := by unfold p_ls; rw [if_neg (by omega), show r + 1 - 1 = r by omega, e1]
      rw [this, f12, f11, f10, f9]
      have := f8 57 n x (by omega)
      have := F7 57 n x (by omega)
      unfold qU; grind
    have O : ∀ (k : Nat) (m x : Int), ¬ ((k = 54 ∨ k = 55 ∨ k = 56 ∨ k = 57) ∧ m = n) → M12 k m x = M8 k m x := fun k m x q => by rw [f12, f11, f10, f9]; unfold qU; rw [if_neg (by omega), if_neg (by omega), if_neg (by omega), if_neg (by omega)]
    refine H M12 (fun k m x q => ?_) ⟨by rw [O _ _ _ (by omega), n9], fun q q0 q1 => ?_, fun q q0 q1 => ?_⟩ ?_
    · rw [O k m x (by omega), f8 k m x (by omega), F7 k m x (by omega)]
    · rw [O _ _ _ (by omega), O _ _ _ (by omega), O _ _ _ (by omega), O _ _ _ (by omega), O _ _ _ (by omega), O _ _ _ (by omega), f8 _ _ _ (by omega), f8 _ _ _ (by omega), f8 _ _ _ (by omega), f8 _ _ _ (by omega), f8 _ _ _ (by omega), f8 _ _ _ (by omega), N48, N49, N50, N51, N52, N53]
      by_cases hq : q = r
      · rw [if_pos hq, if_pos hq, if_pos hq, if_pos hq, if_pos hq, if_pos hq, hq]
        exact ⟨e1.symm, rfl, rfl, rfl, rfl, rfl⟩
      · rw [if_neg hq, if_neg hq, if_neg hq, if_neg hq, if_neg hq, if_neg hq]
        exact r2 q q0 (by omega)
    · rw [O54, O55, O56, O57]
      by_cases hq : q = r + 1
      · rw [if_pos hq, if_pos hq, if_pos hq, if_pos hq, hq]
        exact ⟨rfl, rfl, rfl, rfl⟩
      · rw [if_neg hq, if_neg hq, if_neg hq, if_neg hq]
        exact r3 q q0 (by omega)
    · obtain ⟨y1, y2, y3, y4, y5, y6⟩ := wi
      refine ⟨by rw [O _ _ _ (by omega)]; exact y1, by rw [O _ _ _ (by omega)]; exact y2, by rw [O _ _ _ (by omega)]; exact y3, by rw [O _ _ _ (by omega)]; exact y4, fun x x0 x1 => by rw [O _ _ _ (by omega)]; exact y5 x x0 x1, fun i' w' a b c e => ?_⟩
      have := y6 i' w' a b c e
      rw [O _ _ _ (by omega), O _ _ _ (by omega), O _ _ _ (by omega)]
      exact ⟨this.1, fun q k k0 k1 => by rw [O _ _ _ (by omega)]; exact this.2 q k k0 k1⟩
  · intro w w0 w1 ih M8 f8 wi
    have n50 : M8 50 n r = p_to A r := by rw [f8 _ _ _ (by omega), N50, if_pos rfl]
    have rep8 : p_rep A M8 it i := by
      have G : ∀ (k : Nat) (m x : Int), (k = 5 ∨ k = 37 ∨ k = 33 ∨ k = 34) → M8 k m x = M k m x := fun k m x q => by rw [f8 _ _ _ (by omega), F7 _ _ _ (by omega)]
      exact ⟨by rw [G _ _ _ (by omega)]; exact p0, by rw [G _ _ _ (by omega)]; exact p1, by rw [G _ _ _ (by omega)]; exact p2, by rw [G _ _ _ (by omega)]; exact p6, fun s a b c => by rw [G _ _ _ (by omega)]; exact p3 s a b c, fun w a b => by rw [G _ _ _ (by omega), G _ _ _ (by omega)]; exact p45 w a b⟩
    refine w89_163 hS ⟨⟨by omega, by omega⟩, fun _ => t90 hS hA hi ⟨by omega, by omega⟩ rep8 wi (fun M9 f9 wi9 => ⟨⟨by omega, by omega⟩, ih M9 (fun k m x q => by rw [f9 k m x q, f8 k m x q]) wi9⟩), fun q => by omega⟩
  · obtain ⟨y1, y2, y3, y4, y5, y6⟩ := hI
    refine ⟨by rw [F7 _ _ _ (by omega)]; exact y1, by rw [F7 _ _ _ (by omega)]; exact y2, by rw [F7 _ _ _ (by omega)]; exact y3, by rw [F7 _ _ _ (by omega)]; exact y4, fun x x0 x1 => by rw [F7 _ _ _ (by omega)]; exact y5 x x0 x1, fun i' w' a b c e => ?_⟩
    have := y6 i' w' a b c e
    rw [F7 _ _ _ (by omega), F7 _ _ _ (by omega), F7 _ _ _ (by omega)]
    exact ⟨this.1, fun q k k0 k1 => by rw [F7 _ _ _ (by omega)]; exact this.2 q k k0 k1⟩
/-- the last head that has too few rows below it on a page that ends here -/
def p_late (nd : Int → Int) (e v : Int) : Prop := (v = -1 ∧ ∀ q, 0 ≤ q → e - 3 ≤ q → q < e → nd q ≤ e - 1 - q) ∨ ((0 ≤ v ∧ e - 3 ≤ v ∧ v < e) ∧ e - 1 - v < nd v ∧ ∀ q, v < q → q < e → nd q ≤ e - 1 - q)
theorem t91 {d : Nat} {h : qH} (hS : qSe h) {n e : Int} {M : qM} {f : Int → qM → Prop} (he : 1 ≤ e ∧ e ≤ 70) (H : ∀ v, p_late (M 51 n) e v → f v M) : e91 (d + 1) h n e M f := by
  refine w91 hS ⟨⟨by omega, by omega⟩, ?_⟩
  refine q_dnto (P := fun j => (∀ q, j < q → q < e → M 51 n q ≤ e - 1 - q) → b91_4 d h f n e j M) (a := -1) (b := e - 1) (by omega) ?_ ?_ (fun q a b => by omega)
  · intro hq
    exact w91_4 hS ⟨fun _ => H _ (Or.inl ⟨rfl, fun q a b c => hq q (by omega) c⟩), fun q => by omega⟩
  · intro j j0 j1 ih hq
    refine w91_4 hS ⟨fun q => by omega, fun _ => ⟨⟨by omega, by omega⟩, fun k => H _ (Or.inl ⟨rfl, fun q a b c => hq q (by omega) c⟩), fun k => ⟨⟨by omega, by omega⟩, ⟨by omega, by omega⟩, ⟨by omega, by omega⟩, fun k2 => ⟨⟨by omega, by omega⟩, ?_⟩, fun k2 => H _ (Or.inr ⟨⟨by omega, by omega, by omega⟩, by omega, hq⟩)⟩⟩⟩
    rw [show j + -1 = j - 1 by omega]
    refine ih (fun q a b => ?_)
    by_cases hqj : q = j
    · rw [hqj]; exact k2
    · exact hq q (by omega) b
