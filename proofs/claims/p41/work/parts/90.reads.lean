/-! ===== Composer.readPage ===== -/
/-- where the words of a row begin, counted from the end of the row before it -/
def p_xs (A : pA) (c r : Int) : Int := 200 * c + (if r ≤ 0 then 0 else 20 * p_ri A (r - 1) + p_to A (r - 1))
theorem p_xs_gap {A : pA} {cnt c r : Int} (hA : p_okA A cnt) (h : 0 ≤ r ∧ r < p_SR A cnt) : 200 * c ≤ p_xs A c r ∧ p_xs A c r ≤ 200 * c + 20 * p_ri A r + p_fr A r ∧ ∀ y, p_xs A c r ≤ y → y < 200 * c + 20 * p_ri A r + p_fr A r → A 6 (y / 20 - 10 * c) 0 ≤ y % 20 := by
  obtain ⟨i, s, a1, a2, a3, a4, a5⟩ := p_row_dec hA h
  have s1 := p_SR_s (A := A) (i := i) a1.1
  have z0 : p_SR A 0 = 0 := rfl
  have nn := (p_rc_at hA i s a1.1 a1.2 a2.1 a2.2).2
  by_cases q : 0 < s
  · have at1 := p_rc_at hA i (s - 1) a1.1 a1.2 (by omega) (by omega)
    rw [show p_SR A i + (s - 1) = r - 1 by omega] at at1
    have e1 : p_ri A (r - 1) = i := by unfold p_ri; rw [at1.1]
    have e2 : p_rl A (r - 1) = s - 1 := by unfold p_rl; rw [at1.1]
    rcases (hA.2.1 i a1.1 a1.2).2 with ⟨k1, k2, k3, k4⟩ | ⟨k1, k2, k3, k4, k5, k6⟩
    · omega
    · have t1 : p_to A (r - 1) = A 3 i (s - 1) := by unfold p_to; rw [e1, e2, if_pos k1]
      have t2 : p_fr A r = A 3 i (s - 1) := by unfold p_fr; rw [a4, a5, if_pos k1, if_neg (by omega)]
      have := k4 (s - 1) (by omega) (by omega)
      unfold p_xs
      rw [if_neg (by omega), e1, t1, a4, t2]
      exact ⟨by omega, by omega, fun y y0 y1 => by omega⟩
  · have s0 : s = 0 := by omega
    have t2 : p_fr A r = 0 := by
      unfold p_fr
      rw [a5, if_pos s0]
      split <;> rfl
    by_cases q1 : i = 0
    · have r0 : r = 0 := by rw [q1] at a3; omega
      unfold p_xs
      rw [if_pos (by omega), a4, t2, q1]
      exact ⟨by omega, by omega, fun y y0 y1 => by omega⟩
    · have b6 := p_okA_6 hA (i := i - 1) ⟨by omega, by omega⟩
      have s2 := p_SR_s (A := A) (i := i - 1) (by omega)
      rw [show i - 1 + 1 = i by omega] at s2
      have at1 := p_rc_at hA (i - 1) (A 2 (i - 1) 0 - 1) (by omega) (by omega) (by omega) (by omega)
      rw [show p_SR A (i - 1) + (A 2 (i - 1) 0 - 1) = r - 1 by omega] at at1
      have e1 : p_ri A (r - 1) = i - 1 := by unfold p_ri; rw [at1.1]
      have e2 : p_rl A (r - 1) = A 2 (i - 1) 0 - 1 := by unfold p_rl; rw [at1.1]
      have t1 : p_to A (r - 1) = A 6 (i - 1) 0 := by
        unfold p_to
        rw [e1, e2]
        rcases (hA.2.1 (i - 1) (by omega) (by omega)).2 with ⟨k1, k2, k3, k4⟩ | ⟨k1, k2, k3, k4, k5, k6⟩
        · rw [if_neg (by omega)]; exact k3.symm
        · rw [if_pos k1]; exact k6
      have rr : 0 < r := by have := at1.2; omega
      unfold p_xs
      rw [if_neg (by omega), e1, t1, a4, t2]
      refine ⟨by omega, by omega, fun y y0 y1 => ?_⟩
      rw [show y / 20 - 10 * c = i - 1 by omega]
      omega
theorem p_xs_s {A : pA} {c r : Int} (h : 0 ≤ r) : p_xs A c (r + 1) = 200 * c + 20 * p_ri A r + p_to A r := by
  unfold p_xs
  rw [if_neg (by omega), show r + 1 - 1 = r by omega]
  omega
theorem b_lab_gap {K V : Int → Int} {l a b : Int} (ha : 0 ≤ a) (hab : a ≤ b) (hg : ∀ y, a ≤ y → y < b → K y = 0) : b_lab K V l b = b_lab K V l a := by
  refine q_upto (P := fun x => a ≤ x → b_lab K V l x = b_lab K V l a → b_lab K V l b = b_lab K V l a) hab (fun _ q => q) (fun x x0 x1 ih _ q => ih (by omega) ?_) (Int.le_refl _) rfl
  have := hg x x0 x1
  rw [b_lab_s (by omega), if_neg (by omega)]; exact q
/-- a word that there is -/
def b_real (M : qM) (y : Int) : Prop := y / 20 % 10 < M 1 (y / 200) 1 ∧ y % 20 < M 5 (1 + y / 20) 2
theorem b_cw_0 {K V : Int → Int} {M : qM} {y : Int} (hw : b_cw K V M) (hy : 0 ≤ y ∧ y < 600) (h : ¬ b_real M y) : K y = 0 := by
  have ky := hw y hy.1 hy.2
  unfold b_real at h
  rw [if_neg h] at ky
  exact ky.1.symm
def fr21 (e : Int) (M M' : qM) : Prop := ∀ (k : Nat) (m s : Int), ¬ ((24 ≤ k ∧ k ≤ 26 ∧ m = e) ∨ (k = 19 ∧ m = 0)) → M' k m s = M k m s
/-- what was read up to x -/
def b_rd (K V G : Int → Int) (bp e : Int) (M M' : qM) (x : Int) : Prop := fr21 e M M' ∧ (∀ y, 0 ≤ y → y < x → b_real M y → M' 24 e y = G y ∧ M' 26 e y = (if K y = 2 then b_num K G bp y else 0) ∧ M' 25 e y = -1) ∧ ∀ l, 0 ≤ l → l < 10 → M' 19 0 l = if b_lab K V l x = -1 then 0 else G (b_lab K V l x)
theorem b_rd_gap {K V G : Int → Int} {bp e a b : Int} {M M' : qM} (hw : b_cw K V M) (hab : 0 ≤ a ∧ a ≤ b ∧ b ≤ 600) (hg : ∀ y, a ≤ y → y < b → ¬ b_real M y) (H : b_rd K V G bp e M M' a) : b_rd K V G bp e M M' b := by
  refine ⟨H.1, fun y y0 y1 hy => ?_, fun l l0 l1 => ?_⟩
  · by_cases q : y < a
    · exact H.2.1 y y0 q hy
    · exact absurd hy (hg y (by omega) y1)
  · rw [b_lab_gap hab.1 hab.2.1 (fun y y0 y1 => b_cw_0 hw ⟨by omega, by omega⟩ (hg y y0 y1))]
    exact H.2.2 l l0 l1
theorem t21 {d : Nat} {h : qH} (hS : qSe h) {K V G : Int → Int} {A : pA} {P : pT} {cnt c e k p bp fi : Int} {M M1 : qM} {F : Int → qM → Prop} (hA : p_okA A cnt) (hc : 0 ≤ c ∧ c < 3) (hcnt : M 1 c 1 = cnt) (h6 : 0 < M 2 0 6) (he : 0 ≤ e) (h7 : M 2 0 7 = e + 1) (hw : b_cw K V M) (hV : ∀ y, 0 ≤ y → y < 600 → K y = 1 → 0 ≤ V y ∧ V y < 10) (hrep : ∀ i, 0 ≤ i → i < cnt → p_rep A M (1 + 10 * c + i) i)
    (hR : ∀ q, 0 ≤ q → q < p_SR A cnt → M 48 (1 + 3 * e + c) q = p_ri A q ∧ M 49 (1 + 3 * e + c) q = p_fr A q ∧ M 50 (1 + 3 * e + c) q = p_to A q)
    (hk : 0 ≤ k ∧ k < 86) (hP : M 43 (0 + 3 * e + c) k = P 0 k) (hPb : M 43 (0 + 3 * e + c) (k - 1) = g_bf P 0 k ∨ k = 0) (hab : 0 ≤ g_bf P 0 k ∧ g_bf P 0 k ≤ P 0 k ∧ P 0 k ≤ p_SR A cnt) (hfi : M 8 (0 + 3 * e + c) 0 = fi) (hp : p = fi + k) (hfb : 0 ≤ fi ∧ fi ≤ 500)
    (hG : ∀ r, g_bf P 0 k ≤ r → r < P 0 k → ∀ w, p_fr A r ≤ w → w < p_to A r → G (200 * c + 20 * p_ri A r + w) = p) (h1 : b_rd K V G bp e M M1 (p_xs A c (g_bf P 0 k)))
    (H : ∀ M', b_rd K V G bp e M M' (p_xs A c (P 0 k)) → F (p_sum (b_nt K G bp p) (p_xs A c (P 0 k)) - p_sum (b_nt K G bp p) (200 * c)) M') : e21 (d + 2) h c k (p_sum (b_nt K G bp p) (p_xs A c (g_bf P 0 k)) - p_sum (b_nt K G bp p) (200 * c)) M1 F := by
  have O1 := h1.1
  have e71 : M1 2 0 7 = e + 1 := by rw [O1 _ _ _ (by omega)]; exact h7
  have e81 : M1 8 (0 + 3 * e + c) 0 = fi := by rw [O1 _ _ _ (by omega)]; exact hfi
  have h70 := hA.2.2.2.2
  refine w21 hS ⟨fun q => by omega, fun _ => ⟨hc, fun q => by omega, fun _ => ⟨hc, ?_⟩, fun q => by omega⟩, fun q => by omega⟩
  rw [e71, show e + 1 - 1 = e by omega, e81]
  refine ⟨⟨by omega, by omega⟩, fun q => by omega, fun _ => ⟨hc, t82 hS ⟨by omega, by omega⟩ ?_⟩, fun q => by omega⟩
  have eb : (if k ≤ 0 then 0 else M1 43 (0 + 3 * e + c) (k - 1)) = g_bf P 0 k := by
    by_cases q : k ≤ 0
    · rw [if_pos q]; unfold g_bf; rw [if_pos q]
    · rw [if_neg q, O1 _ _ _ (by omega)]; exact hPb.resolve_right (by omega)
  rw [eb, ← hp]
  have row : ∀ r, g_bf P 0 k ≤ r → ∀ u8 u9 u10 M2, r ≤ P 0 k → b_rd K V G bp e M M2 (p_xs A c r) → b21_45 d h F c k (.inl (p_sum (b_nt K G bp p) (p_xs A c (g_bf P 0 k)) - p_sum (b_nt K G bp p) (200 * c))) (1 + 3 * e + c) p (p_sum (b_nt K G bp p) (p_xs A c r) - p_sum (b_nt K G bp p) (200 * c)) r u8 u9 u10 M2 := by
    intro r hr
    refine q_upto (P := fun r => g_bf P 0 k ≤ r → ∀ u8 u9 u10 M2, r ≤ P 0 k → b_rd K V G bp e M M2 (p_xs A c r) → b21_45 d h F c k (.inl (p_sum (b_nt K G bp p) (p_xs A c (g_bf P 0 k)) - p_sum (b_nt K G bp p) (200 * c))) (1 + 3 * e + c) p (p_sum (b_nt K G bp p) (p_xs A c r) - p_sum (b_nt K G bp p) (200 * c)) r u8 u9 u10 M2) (a := r) (b := if r ≤ P 0 k then P 0 k else r) (by split <;> omega) (fun _ u8 u9 u10 M2 q R2 => ?_) (fun r r0 r1 ih hr u8 u9 u10 M2 _ R2 => ?_) hr
    · rw [if_pos (by split at q <;> omega)] at R2 ⊢
      have O2 := R2.1
      have e7 : M2 2 0 7 = e + 1 := by rw [O2 _ _ _ (by omega)]; exact h7
      have e43 : M2 43 (0 + 3 * e + c) k = P 0 k := by rw [O2 _ _ _ (by omega)]; exact hP
      refine w21_45 hS ⟨fun q => by omega, fun _ => ⟨hc, hk, ?_⟩, fun q => by omega⟩
      rw [e7, show e + 1 - 1 = e by omega, e43]
      exact ⟨fun q => by omega, fun _ => H M2 R2⟩
    · have r2 : r < P 0 k := by split at r1 <;> omega
      have O2 := R2.1
      have e7 : M2 2 0 7 = e + 1 := by rw [O2 _ _ _ (by omega)]; exact h7
      have e6 : M2 2 0 6 = M 2 0 6 := O2 _ _ _ (by omega)
      have e43 : M2 43 (0 + 3 * e + c) k = P 0 k := by rw [O2 _ _ _ (by omega)]; exact hP
      have hr0 := hR r (by omega) (by omega)
      have e48 : M2 48 (1 + 3 * e + c) r = p_ri A r := by rw [O2 _ _ _ (by omega)]; exact hr0.1
      have e49 : M2 49 (1 + 3 * e + c) r = p_fr A r := by rw [O2 _ _ _ (by omega)]; exact hr0.2.1
      have ri := p_row_in hA (r := r) ⟨by omega, by omega⟩
      have hcn := hA.1
      have gp := p_xs_gap (c := c) hA (r := r) ⟨by omega, by omega⟩
      have xs := p_xs_s (A := A) (c := c) (r := r) (by omega)
      refine w21_45 hS ⟨fun q => by omega, fun _ => ⟨hc, hk, ?_⟩, fun q => by omega⟩
      rw [e7, show e + 1 - 1 = e by omega, e43, e48, e49]
      refine ⟨fun _ => ⟨fun q => by omega, fun _ => ⟨hc, ⟨by omega, by omega⟩, ⟨by omega, by omega⟩, ⟨by omega, by omega⟩, ?_⟩, fun q => by omega⟩, fun q => by omega⟩
      have nr : ∀ y, p_xs A c r ≤ y → y < 200 * c + 20 * p_ri A r + p_fr A r → ¬ b_real M y := fun y y0 y1 hy => by
        have g := gp.2.2 y y0 y1
        have hy2 := hy.2
        have hy1 := hy.1
        rw [show y / 200 = c by omega, hcnt] at hy1
        have r4 := (hrep (y / 20 - 10 * c) (by omega) (by omega)).2.2.2.1
        rw [show 1 + 10 * c + (y / 20 - 10 * c) = 1 + y / 20 by omega] at r4
        omega
      have R3 := b_rd_gap hw ⟨by omega, gp.2.1, by omega⟩ nr R2
      have n3 : p_sum (b_nt K G bp p) (p_xs A c r) = p_sum (b_nt K G bp p) (200 * c + 20 * p_ri A r + p_fr A r) := by
        rw [b_gap (g := b_nt K G bp p) (a := p_xs A c r) (b := 200 * c + 20 * p_ri A r + p_fr A r) (by omega) gp.2.1 (fun y y0 y1 => ?_)]
        have := b_cw_0 hw ⟨by omega, by omega⟩ (nr y y0 y1)
        unfold b_nt; rw [if_neg (by omega)]
      rw [n3]
      refine q_upto (P := fun w => p_fr A r ≤ w → ∀ u10 M3, b_rd K V G bp e M M3 (200 * c + 20 * p_ri A r + w) → b21_94 d h F c k (.inl (p_sum (b_nt K G bp p) (p_xs A c (g_bf P 0 k)) - p_sum (b_nt K G bp p) (200 * c))) (1 + 3 * e + c) p (p_sum (b_nt K G bp p) (200 * c + 20 * p_ri A r + w) - p_sum (b_nt K G bp p) (200 * c)) r (1 + 10 * c + p_ri A r) w u10 M3) (a := p_fr A r) (b := p_to A r) (by omega) (fun _ u10 M3 R3 => ?_) (fun w w0 w1 ihw _ u10 M3 R3 => ?_) (Int.le_refl _) _ M2 R3
      · have O3 := R3.1
        have e50 : M3 50 (1 + 3 * e + c) r = p_to A r := by rw [O3 _ _ _ (by omega)]; exact hr0.2.2
        rw [← xs] at R3 ⊢
        exact w21_94 hS ⟨⟨by omega, by omega⟩, fun q => by omega, fun _ => ⟨⟨by omega, by omega⟩, ih (by omega) _ _ _ M3 (by omega) R3⟩⟩
      · have O3 := R3.1
        have e50 : M3 50 (1 + 3 * e + c) r = p_to A r := by rw [O3 _ _ _ (by omega)]; exact hr0.2.2
        have e48 : M3 48 (1 + 3 * e + c) r = p_ri A r := by rw [O3 _ _ _ (by omega)]; exact hr0.1
        have e73 : M3 2 0 7 = e + 1 := by rw [O3 _ _ _ (by omega)]; exact h7
        have gw := hG r (by omega) r2 w w0 w1
        have r4 := (hrep (p_ri A r) (by omega) (by omega)).2.2.2.1
        have eid : (c * 10 + p_ri A r) * 20 + w = 200 * c + 20 * p_ri A r + w := by omega
        generalize hx : 200 * c + 20 * p_ri A r + w = x at *
        have rl : b_real M x := by
          unfold b_real
          rw [show x / 20 % 10 = p_ri A r by omega, show x / 200 = c by omega, show x % 20 = w by omega, show 1 + x / 20 = 1 + 10 * c + p_ri A r by omega, hcnt, r4]
          exact ⟨by omega, by omega⟩
        have kx := hw x (by omega) (by omega)
        have rl' := rl
        unfold b_real at rl'
        rw [if_pos rl', show 1 + x / 20 = 1 + 10 * c + p_ri A r by omega, show x % 20 = w by omega] at kx
        have sn := p_sum_s (g := b_nt K G bp p) (x := x) (by omega)
        have bn := b_sum_le (g := b_nt K G bp p) (a := 200 * c) (b := x) (fun _ => b_nt_b) (by omega) (by omega)
        have nx : b_nt K G bp p x = if K x = 2 then 1 else 0 := by
          unfold b_nt
          by_cases q : K x = 2
          · rw [if_pos q, if_pos ⟨q, Or.inr gw⟩]
          · rw [if_neg q, if_neg (fun z => q z.1)]
        have nm : K x = 2 → b_num K G bp x = p_sum (b_nt K G bp p) (x + 1) - p_sum (b_nt K G bp p) (200 * c) := fun q => by
          rw [if_pos q] at nx
          unfold b_num
          rw [gw, show x / 200 * 200 = 200 * c by omega]; omega
        have sl : ∀ l, b_lab K V l (x + 1) = if K x = 1 ∧ V x = l then x else b_lab K V l x := fun l => b_lab_s (by omega)
        refine w21_94 hS ⟨⟨by omega, by omega⟩, fun _ => ⟨⟨by omega, by omega⟩, ?_⟩, fun q => by omega⟩
        rw [e48]
        refine w147 hS ⟨⟨by omega, by omega⟩, ⟨by omega, by omega⟩, ⟨by omega, by omega⟩, ⟨by omega, by omega⟩, ⟨by omega, by omega⟩, fun n hn => ?_⟩
        rw [eid, e73, show e + 1 - 1 = e by omega]
        have e33 : M3 33 (1 + 10 * c + p_ri A r) w = K x := by rw [O3 _ _ _ (by omega)]; exact kx.1
        rw [e33, ← nx] at hn
        refine ⟨⟨by omega, by omega⟩, fun q => by omega, fun _ => ⟨⟨by omega, by omega⟩, fun M4 f4 => ?_⟩, fun q => by omega⟩
        have O4 : ∀ (k : Nat) (m s : Int), ¬ (k = 24 ∧ m = e ∧ s = x) → M4 k m s = M3 k m s := fun k m s q => by rw [f4]; unfold qU; rw [if_neg q]
        have e74 : M4 2 0 7 = e + 1 := by rw [O4 _ _ _ (by omega)]; exact e73
        rw [e74, show e + 1 - 1 = e by omega]
        refine ⟨fun q => by omega, fun _ => ⟨⟨by omega, by omega⟩, fun z hz => ⟨⟨by omega, by omega⟩, fun M5 f5 => ?_⟩⟩, fun q => by omega⟩
        have O5 : ∀ (k : Nat) (m s : Int), ¬ (k = 26 ∧ m = e ∧ s = x) → M5 k m s = M4 k m s := fun k m s q => by rw [f5]; unfold qU; rw [if_neg q]
        have e75 : M5 2 0 7 = e + 1 := by rw [O5 _ _ _ (by omega)]; exact e74
        rw [e75, show e + 1 - 1 = e by omega]
        refine ⟨fun q => by omega, fun _ => ⟨⟨by omega, by omega⟩, fun M6 f6 => ?_⟩, fun q => by omega⟩
        have O6 : ∀ (k : Nat) (m s : Int), ¬ (k = 25 ∧ m = e ∧ s = x) → M6 k m s = M5 k m s := fun k m s q => by rw [f6]; unfold qU; rw [if_neg q]
        have O36 : ∀ (k : Nat) (m s : Int), ¬ (24 ≤ k ∧ k ≤ 26 ∧ m = e ∧ s = x) → M6 k m s = M3 k m s := fun k m s q => by rw [O6 k m s (by omega), O5 k m s (by omega), O4 k m s (by omega)]
        have k33 : M6 33 (1 + 10 * c + p_ri A r) w = K x := by rw [O36 _ _ _ (by omega)]; exact e33
        have cnt1 : p_sum (b_nt K G bp p) x - p_sum (b_nt K G bp p) (200 * c) + n = p_sum (b_nt K G bp p) (x + 1) - p_sum (b_nt K G bp p) (200 * c) := by omega
        have v24 : M6 24 e x = G x := by rw [O6 _ _ _ (by omega), O5 _ _ _ (by omega), f4, qU_s]; exact gw.symm
        have v26 : M6 26 e x = if K x = 2 then b_num K G bp x else 0 := by
          rw [O6 _ _ _ (by omega), f5, qU_s, hz, O4 _ _ _ (by omega), e33]
          by_cases q : K x = 2
          · rw [if_pos q, if_pos q, nm q]; exact cnt1
          · rw [if_neg q, if_neg q]
        have v25 : M6 25 e x = -1 := by rw [f6, qU_s]
        have old : ∀ y, 0 ≤ y → y < x → b_real M y → M6 24 e y = G y ∧ M6 26 e y = (if K y = 2 then b_num K G bp y else 0) ∧ M6 25 e y = -1 := fun y y0 y1 hy => by
          rw [O36 _ _ _ (by omega), O36 _ _ _ (by omega), O36 _ _ _ (by omega)]; exact R3.2.1 y y0 y1 hy
        have all : ∀ M7, (∀ (k : Nat) (m s : Int), ¬ (k = 19 ∧ m = 0) → M7 k m s = M6 k m s) → (∀ l, 0 ≤ l → l < 10 → M7 19 0 l = if b_lab K V l (x + 1) = -1 then 0 else G (b_lab K V l (x + 1))) → b_rd K V G bp e M M7 (x + 1) := fun M7 O7 l7 => by
          refine ⟨fun k m s q => by rw [O7 k m s (by omega), O36 k m s (by omega)]; exact O3 k m s q, fun y y0 y1 hy => ?_, l7⟩
          rw [O7 _ _ _ (by omega), O7 _ _ _ (by omega), O7 _ _ _ (by omega)]
          by_cases q : y = x
          · rw [q]; exact ⟨v24, v26, v25⟩
          · exact old y y0 (by omega) hy
        rw [k33, cnt1]
        have nxt : 200 * c + 20 * p_ri A r + (w + 1) = x + 1 := by omega
        rw [nxt] at ihw
        refine ⟨⟨by omega, by omega⟩, fun q1 => ⟨⟨by omega, by omega⟩, ?_⟩, fun q1 => ⟨⟨by omega, by omega⟩, ihw (by omega) _ M6 (all M6 (fun _ _ _ _ => rfl) (fun l l0 l1 => ?_))⟩⟩
        · have vx := hV x (by omega) (by omega) q1
          have e34 : M6 34 (1 + 10 * c + p_ri A r) w = V x := by rw [O36 _ _ _ (by omega), O3 _ _ _ (by omega)]; exact kx.2 (by omega)
          rw [e34]
          refine ⟨vx, fun M7 f7 => ⟨⟨by omega, by omega⟩, ihw (by omega) _ M7 (all M7 (fun k m s q => by rw [f7]; unfold qU; rw [if_neg (by omega)]) (fun l l0 l1 => ?_))⟩⟩
          by_cases q : V x = l
          · have sl1 : b_lab K V l (x + 1) = x := by rw [sl, if_pos ⟨q1, q⟩]
            rw [sl1, if_neg (by omega), f7, q, qU_s]; exact gw.symm
          · have sl0 : b_lab K V l (x + 1) = b_lab K V l x := by rw [sl, if_neg (fun z => q z.2)]
            rw [sl0, f7, qU_l (fun z => q z.symm), O36 _ _ _ (by omega)]; exact R3.2.2 l l0 l1
        · have sl0 : b_lab K V l (x + 1) = b_lab K V l x := by rw [sl, if_neg (fun z => q1 z.1)]
          rw [sl0, O36 _ _ _ (by omega)]; exact R3.2.2 l l0 l1
  exact row _ (Int.le_refl _) _ _ _ M1 hab.2.1 h1
