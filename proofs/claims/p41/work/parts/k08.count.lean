/-! ===== a chapter of 16 words and heads has at most 19 pages ===== -/
/-- words and heads -/
def p_SW (A : pA) (cnt : Int) : Int := p_sum (fun x => if A 0 x 0 = 0 then A 6 x 0 else 1) cnt
theorem p_sum_le {g g' : Int → Int} {n : Int} (hn : 0 ≤ n) (h : ∀ x, 0 ≤ x → x < n → g x ≤ g' x) : p_sum g n ≤ p_sum g' n ∧ (p_sum g' n ≤ p_sum g n → ∀ x, 0 ≤ x → x < n → g x = g' x) := by
  refine q_dnto (P := fun n => (∀ x, 0 ≤ x → x < n → g x ≤ g' x) → p_sum g n ≤ p_sum g' n ∧ (p_sum g' n ≤ p_sum g n → ∀ x, 0 ≤ x → x < n → g x = g' x)) hn (fun _ => ⟨Int.le_refl _, fun _ x a b => by omega⟩) (fun j j0 j1 ih h => ?_) h
  obtain ⟨i1, i2⟩ := ih (fun x a b => h x a (by omega))
  have s1 := p_sum_s (g := g) (x := j - 1) (by omega)
  have s2 := p_sum_s (g := g') (x := j - 1) (by omega)
  rw [show j - 1 + 1 = j by omega] at s1 s2
  have hj := h (j - 1) (by omega) (by omega)
  refine ⟨by omega, fun e x a b => ?_⟩
  by_cases z : x = j - 1
  · subst z; omega
  · exact i2 (by omega) x a (by omega)
/-- every row is one word or a head -/
theorem p_thin {A : pA} {cnt q : Int} (h : p_okB A cnt) (hw : p_SW A cnt ≤ p_SR A cnt) (hq : 0 ≤ q ∧ q < p_SR A cnt) : p_nl A (q + 1) ≤ p_nl A q + 4 ∧ (p_nl A q < p_nl A (q + 1) → p_ls A (q + 1) = p_nl A q + 1) := by
  have ok := h.1
  have le := p_sum_le (g := fun x => A 2 x 0) (g' := fun x => if A 0 x 0 = 0 then A 6 x 0 else 1) (n := cnt) ok.1.1 (fun x a b => by
    show A 2 x 0 ≤ if A 0 x 0 = 0 then A 6 x 0 else 1
    rcases (ok.2.1 x a b).2 with k | k
    · rw [if_neg (by omega)]; omega
    · rw [if_pos k.1]; omega)
  have r := p_row_in ok hq
  have e := le.2 hw _ r.1.1 r.1.2
  have e' : A 2 (p_ri A q) 0 = if A 0 (p_ri A q) 0 = 0 then A 6 (p_ri A q) 0 else 1 := e
  have fr := k_fr ok hq
  have to := k_to (A := A) (q := q) hq.1
  rcases (ok.2.1 _ r.1.1 r.1.2).2 with k | ⟨k1, k2, k3, k4, k5, k6⟩
  · have f0 : p_fr A q = 0 := by unfold p_fr; rw [if_neg (by omega)]
    have t0 : p_to A q = 0 := by unfold p_to; rw [if_neg (by omega)]
    rw [f0] at fr
    rw [t0] at to
    omega
  · rw [if_pos k1] at e'
    have lt : ∀ s, 0 ≤ s → s < A 2 (p_ri A q) 0 → A 3 (p_ri A q) s = s + 1 := by
      intro s s0 s1
      refine q_upto (P := fun s => 0 ≤ s → A 3 (p_ri A q) s = s + 1) (a := s) (b := A 2 (p_ri A q) 0 - 1) (by omega) (fun _ => by rw [k6]; omega) (fun j j0 j1 ih j2 => ?_) s0
      have a := ih (by omega)
      have b := k5 j j2 (by omega)
      have c := k4 j j2 (by omega)
      omega
    have tq : p_to A q = p_rl A q + 1 := by unfold p_to; rw [if_pos k1]; exact lt _ r.2.1.1 r.2.1.2
    have fq : p_fr A q = p_rl A q := by
      unfold p_fr
      rw [if_pos k1]
      by_cases z : p_rl A q = 0
      · rw [if_pos z]; omega
      · rw [if_neg z, lt _ (by omega) (by omega)]; omega
    rw [fq] at fr
    rw [tq] at to
    have nb := p_NB_s (A := A) (i := p_ri A q) (w := p_rl A q) r.2.1.1
    have lsn := p_LS_s (A := A) (i := p_ri A q) (w := p_rl A q) r.2.1.1
    by_cases k7 : A 4 (p_ri A q) (p_rl A q) = 2
    · have := (h.2.1 _ (p_rl A q) r.1.1 r.1.2 r.2.1.1 (by omega)).2 k7
      rw [if_pos k7] at nb lsn
      omega
    · rw [if_neg k7] at nb lsn
      omega
def k_phi (wf wl : Int) : Int := wf + (if wl ≤ 2 * wf then 0 else 1)
/-- pages without rows, where few lines wait -/
theorem k_bN {T : pT} (hT : g_tab T) : ∀ (t : Nat) (f n : Int), T 8 2 + T 8 3 - f - n ≤ t → (0 ≤ f ∧ f ≤ T 8 2) → (0 ≤ n ∧ n ≤ T 8 3) → T 8 3 - n ≤ 3 → g_bN T f n ≤ k_phi (T 8 2 - f) (T 8 3 - n) := by
  intro t
  induction t with
  | zero =>
    intro f n ht hf hn hl
    have s := g_bN_s hT hf hn
    rw [s.2.2 (by omega)]
    unfold k_phi
    split <;> omega
  | succ t ih =>
    intro f n ht hf hn hl
    have s := g_bN_s hT hf hn
    by_cases z : f < T 8 2 ∨ n < T 8 3
    · obtain ⟨b1, b2, b3⟩ := g_bF_p hT hf
      have go := g_b_go hT hf hn
      have g3 := go.2.2 z
      have i := ih (g_bF T f) (n + g_bL T f n) (by omega) ⟨by omega, b1.2⟩ ⟨by omega, go.1.2⟩ (by omega)
      rw [s.2.1 z]
      have hm := hT.2.2.2.2.2.2.2.2.1
      have hD := hT.2.1
      have h4 := hT.2.2.1
      have one : f < T 8 2 → f + 1 ≤ g_bF T f := fun lt => by
        rcases b3 with e | e
        · omega
        · by_cases y : g_bF T f = f
          · have := hm f (g_bF T f + 1) hf.1 (by omega) (by omega)
            rw [y] at e this
            have := this.2.2 (Int.le_refl _)
            omega
          · omega
      have ln : g_bF T f ≤ f + 1 → (g_bL T f n = T 8 3 - n ∨ (2 ≤ g_bL T f n ∧ f < g_bF T f) ∨ 7 ≤ g_bL T f n) := fun le => by
        have := (hm f (g_bF T f) hf.1 b1.1 b1.2)
        have t5 := this.2.2 le
        unfold g_bL g_bR
        by_cases y : g_bF T f = f
        · rw [y]
          split
          · omega
          · split <;> omega
        · split
          · omega
          · split <;> omega
      unfold k_phi at i ⊢
      by_cases c1 : g_bF T f ≤ f + 1
      · have l := ln c1
        by_cases c2 : f < T 8 2
        · have o := one c2
          split at i <;> split <;> omega
        · split at i <;> split <;> omega
      · split at i <;> split <;> omega
    · rw [s.2.2 z]
      unfold k_phi
      split <;> omega
theorem k_phi_4 {wf wl : Int} (h : 0 ≤ wf ∧ wf ≤ 4) (hl : 0 ≤ wl ∧ wl ≤ 3) : k_phi wf wl ≤ 4 ∧ (wf ≤ 3 → k_phi wf wl ≤ 3) := by
  unfold k_phi
  split <;> omega
/-- the pages with rows, so far -/
def k_pgs (T P : pT) (cw : Int) : Prop := ∀ k, 0 ≤ k → k < cw → g_at T (g_bf P 0 k) (g_bf P 1 k) (g_bf P 2 k) ∧ ∃ m, g_can T (g_bf P 0 k) (g_bf P 1 k) (g_bf P 2 k) (P 0 k) m ∧ P 1 k = g_bf P 1 k + m ∧ P 2 k = g_bf P 2 k + g_lines T (g_bf P 0 k) (P 0 k) (g_bf P 1 k) m (g_bf P 2 k)
theorem k_bf_s {P : pT} {j : Int} {i : Nat} {k : Int} (e : j.toNat = i) (h : 0 ≤ k) : g_bf P j (k + 1) = P i k := by
  unfold g_bf
  rw [if_neg (by omega), show k + 1 - 1 = k by omega, e]
theorem k_pgs_a {T P : pT} {cw : Int} (h : k_pgs T P cw) : ∀ k, 0 ≤ k → k ≤ cw → k ≤ g_bf P 0 k ∧ (k < cw → g_bf P 0 k < P 0 k ∧ P 0 k ≤ T 8 0) := by
  intro k k0 k1
  have st : ∀ j, 0 ≤ j → j < cw → g_bf P 0 j < P 0 j ∧ P 0 j ≤ T 8 0 := fun j a b => by
    obtain ⟨_, m, c, _⟩ := h j a b
    exact c.1
  refine ⟨?_, fun z => st k k0 z⟩
  refine q_dnto (P := fun k => k ≤ cw → k ≤ g_bf P 0 k) k0 (fun _ => by unfold g_bf; rw [if_pos (Int.le_refl _)]; exact Int.le_refl _) (fun j a b ih c => ?_) k1
  have e : g_bf P 0 j = P 0 (j - 1) := by
    have := k_bf_s (P := P) (j := 0) (i := 0) (k := j - 1) rfl (by omega)
    rw [show j - 1 + 1 = j by omega] at this
    exact this
  have := st (j - 1) (by omega) (by omega)
  have := ih (by omega)
  omega
theorem k_ct_last {T : pT} (hT : g_tab T) (R16 : T 8 0 = 16) (F4 : T 8 2 = 4) (t15 : T 2 16 ≤ T 2 15 + 4 ∧ (T 2 15 < T 2 16 → T 3 16 = T 2 15 + 1)) (hbest : g_best T g_I 15 0 (T 2 15) 0 16 0) (gat : g_at T 15 0 (T 2 15)) : g_bN T 0 (T 2 15 + g_lines T 15 16 0 0 (T 2 15)) ≤ 3 := by
  have mono := hT.2.2.2.2.2.2.1 15 16 (by omega) (by omega) (by omega)
  have hm := hT.2.2.2.2.2.2.2.2.1 0 1 (by omega) (by omega) (by omega)
  have h4 := hm.2.2 (by omega)
  have hD := hT.2.1
  have T40 := hT.2.2.2.2.1.2.2.2.2
  have n12 := hT.2.2.2.1
  have eR := hT.2.2.2.2.2.1
  have eR1 : T 1 16 = 4 := by rw [← F4, ← R16]; exact eR.1
  have eR2 : T 2 16 = T 8 3 := by rw [← R16]; exact eR.2
  rw [R16] at eR
  have h45 : 2 ≤ T 4 1 ∧ T 4 1 ≤ 5 := by omega
  clear hm h4
  have H0 : g_high T 15 16 0 0 = 1 := by
    unfold g_high
    rw [show (15 : Int) + 1 = 16 by decide, show (0 : Int) + 0 = 0 by decide]
    omega
  have H1 : g_high T 15 16 0 1 = 1 + T 4 1 := by
    unfold g_high
    rw [show (15 : Int) + 1 = 16 by decide, show (0 : Int) + 1 = 1 by decide]
    omega
  have L0 : g_lines T 15 16 0 0 (T 2 15) = T 2 16 - T 2 15 := by
    unfold g_lines g_room
    rw [H0]
    split
    · omega
    · split <;> omega
  have L1 : g_lines T 15 16 0 1 (T 2 15) = if T 2 16 - T 2 15 < T 8 1 - 2 - T 4 1 then T 2 16 - T 2 15 else T 8 1 - 2 - T 4 1 := by
    unfold g_lines g_room
    rw [H1, if_neg (by omega), show T 8 1 - (1 + T 4 1) - 1 = T 8 1 - 2 - T 4 1 by omega]
  have L1b : (g_lines T 15 16 0 1 (T 2 15) = T 2 16 - T 2 15 ∧ T 2 16 - T 2 15 < T 8 1 - 2 - T 4 1) ∨ (g_lines T 15 16 0 1 (T 2 15) = T 8 1 - 2 - T 4 1 ∧ T 8 1 - 2 - T 4 1 ≤ T 2 16 - T 2 15) := by
    rw [L1]; split <;> omega
  clear L1
  have can1 : g_can T 15 0 (T 2 15) 16 1 := by
    refine ⟨⟨by omega, by omega⟩, ⟨by omega, by omega, by omega⟩, by rw [H1]; omega, fun z => absurd z (by omega), ?_⟩
    have a := gat.2.2.1
    by_cases z : T 2 15 < T 2 16
    · have := t15.2 z
      omega
    · have := mono.2.2.2.2 (by omega)
      omega
  have le1 := (g_V_p (T := T) (I := g_I) (a := 15) (f := 0) (n := T 2 15) (x := 0) (by omega)).2.1 16 1 can1
  have le0 := hbest.2.1
  unfold g_val at le0 le1
  rw [g_V_end (T := T) (I := g_I) (a := 16) (by omega)] at le0 le1
  have far0 : ∀ m, g_far T 15 16 0 m (T 2 15) 0 = 0 := fun m => by unfold g_far; rw [if_pos rfl]
  rw [far0] at le0 le1
  rw [show (0 : Int) + 0 = 0 by decide] at le0
  rw [show (0 : Int) + 1 = 1 by decide] at le1
  have last : ∀ m, m ≤ 1 → g_last T 15 16 0 m (T 2 15) = 0 := fun m hm => by
    unfold g_last g_late
    rw [if_pos (by omega), if_neg (by omega)]
  have F0 : g_fill0 T 15 16 0 0 (T 2 15) = 1 + (if T 2 16 - T 2 15 ≤ 0 then 0 else T 2 16 - T 2 15 + 1) := by unfold g_fill0; rw [H0, L0]
  have F1 : g_fill0 T 15 16 0 1 (T 2 15) = 1 + T 4 1 + (if g_lines T 15 16 0 1 (T 2 15) ≤ 0 then 0 else g_lines T 15 16 0 1 (T 2 15) + 1) := by unfold g_fill0; rw [H1]
  have F0b : g_fill0 T 15 16 0 0 (T 2 15) ≤ T 8 1 := by rw [F0]; split <;> omega
  have F1b : g_fill0 T 15 16 0 1 (T 2 15) ≤ T 8 1 ∧ g_fill0 T 15 16 0 0 (T 2 15) ≤ g_fill0 T 15 16 0 1 (T 2 15) := by
    clear le0 le1
    by_cases z : T 2 16 - T 2 15 ≤ 0
    · rw [if_pos z] at F0
      split at F1 <;> omega
    · rw [if_neg z] at F0
      split at F1 <;> omega
  have gr : ∀ m, m ≤ 1 → g_fill0 T 15 16 0 m (T 2 15) ≤ T 8 1 → g_grown T 15 16 0 m (T 2 15) = 0 := fun m hm hf => by
    unfold g_grown
    rw [if_pos (last m hm), show (15 : Int) + 1 = 16 by decide]
    split <;> omega
  have c0 : g_cost T 15 16 0 0 (T 2 15) = 12 + g_ends T 15 16 + (T 8 1 - g_fill0 T 15 16 0 0 (T 2 15)) * (T 8 1 - g_fill0 T 15 16 0 0 (T 2 15)) := by
    unfold g_cost g_lack
    rw [if_pos (last 0 (by omega)), gr 0 (by omega) F0b, L0, Int.sub_zero]
    unfold g_late
    omega
  have c1 : g_cost T 15 16 0 1 (T 2 15) = 9 + 2 * (T 2 16 - T 2 15 - g_lines T 15 16 0 1 (T 2 15)) + g_ends T 15 16 + (T 8 1 - g_fill0 T 15 16 0 1 (T 2 15)) * (T 8 1 - g_fill0 T 15 16 0 1 (T 2 15)) := by
    unfold g_cost g_lack
    rw [if_pos (last 1 (by omega)), gr 1 (by omega) F1b.1, Int.sub_zero]
    unfold g_late
    omega
  have sq : (T 8 1 - g_fill0 T 15 16 0 1 (T 2 15)) * (T 8 1 - g_fill0 T 15 16 0 1 (T 2 15)) ≤ (T 8 1 - g_fill0 T 15 16 0 0 (T 2 15)) * (T 8 1 - g_fill0 T 15 16 0 0 (T 2 15)) := Int.mul_le_mul (by omega) (by omega) (by omega) (by omega)
  have bn1 := k_bN hT _ 1 (T 2 15 + g_lines T 15 16 0 1 (T 2 15)) (Int.self_le_toNat _) ⟨by omega, by omega⟩ ⟨by have := gat.2.2.1; have := hT.2.2.2.2.2.2.2.1 15 (by omega) (by omega); omega, by omega⟩ (by omega)
  have ph1 := (k_phi_4 (wf := T 8 2 - 1) (wl := T 8 3 - (T 2 15 + g_lines T 15 16 0 1 (T 2 15))) (by omega) (by omega)).2 (by omega)
  omega
theorem k_ct {T P : pT} {cw : Int} (hT : g_tab T) (hR : T 8 0 ≤ 16) (thin : T 8 0 = 16 → ∀ r, 0 ≤ r → r < 16 → T 2 (r + 1) ≤ T 2 r + 4 ∧ (T 2 r < T 2 (r + 1) → T 3 (r + 1) = T 2 r + 1)) (h0 : 0 < cw) (hP : k_pgs T P cw) (hl : P 0 (cw - 1) = T 8 0) (hb : g_pB T P (cw - 1)) : cw + g_bN T (P 1 (cw - 1)) (P 2 (cw - 1)) ≤ 19 ∧ cw ≤ T 8 0 ∧ cw + g_bN T (P 1 (cw - 1)) (P 2 (cw - 1)) ≤ T 8 0 + 4 := by
  have inc := k_pgs_a hP
  have lastp := inc (cw - 1) (by omega) (by omega)
  have cwR : cw ≤ T 8 0 := by have := lastp.2 (by omega); omega
  have cw16 : cw ≤ 16 := by omega
  obtain ⟨at1, m, can, p1, p2⟩ := hP (cw - 1) (by omega) (by omega)
  have nx := g_next hT at1 can.1 ⟨can.2.1.1, can.2.1.2.2⟩ can.2.2
  rw [← p1, ← p2, hl] at nx
  have eR := hT.2.2.2.2.2.1
  have nx1 := nx.2.1
  have nx2 := nx.2.2
  rw [eR.1] at nx1
  rw [eR.2] at nx2
  have t3 := hT.2.2.2.2.2.2.2.1 (T 8 0) (by omega) (Int.le_refl _)
  rw [eR.2] at t3
  have f4 := hT.2.2.1
  have n12 := hT.2.2.2.1
  have bn := k_bN hT _ (P 1 (cw - 1)) (P 2 (cw - 1)) (Int.self_le_toNat _) nx1 ⟨by omega, nx2.2⟩ (by omega)
  have ph := k_phi_4 (wf := T 8 2 - P 1 (cw - 1)) (wl := T 8 3 - P 2 (cw - 1)) (by omega) (by omega)
  refine ⟨?_, cwR, by omega⟩
  by_cases c16 : cw ≤ 15
  · omega
  by_cases wf : T 8 2 - P 1 (cw - 1) ≤ 3
  · have := ph.2 wf; omega
  refine Classical.byContradiction fun neg => ?_
  have ecw : cw = 16 := by omega
  subst ecw
  have R16 : T 8 0 = 16 := by have := lastp.2 (by omega); omega
  have th := thin R16
  have bs : ∀ (j : Nat) (k : Int), 1 ≤ k → g_bf P (j : Int) k = P j (k - 1) := fun j k hk => by
    have := k_bf_s (P := P) (j := (j : Int)) (i := j) (k := k - 1) (by omega) (by omega)
    rw [show k - 1 + 1 = k by omega] at this
    exact this
  -- no float has been placed
  have fz : ∀ k, 0 ≤ k → k ≤ 16 → g_bf P 1 k = 0 := by
    intro k k0 k1
    have : g_bf P 1 k ≤ 0 := by
      refine q_upto (P := fun k => 0 ≤ k → g_bf P 1 k ≤ 0) (a := k) (b := 16) k1 (fun _ => by have := bs 1 16 (by omega); rw [show ((1 : Nat) : Int) = 1 from rfl] at this; rw [this, show (16 : Int) - 1 = 15 by decide]; simp only [show (16 : Int) - 1 = 15 by decide] at wf f4; omega) (fun j a b ih c => ?_) k0
      obtain ⟨_, m', c', q1, _⟩ := hP j c b
      have e := bs 1 (j + 1) (by omega)
      rw [show j + 1 - 1 = j by omega, show ((1 : Nat) : Int) = 1 from rfl] at e
      have := ih (by omega)
      have := c'.2.1.1
      omega
    by_cases z : k = 0
    · subst z; unfold g_bf; rw [if_pos (Int.le_refl _)]
    · obtain ⟨a', _⟩ := hP (k - 1) (by omega) (by omega)
      obtain ⟨a0, m', c', q1, _⟩ := hP (k - 1) (by omega) (by omega)
      have e := bs 1 k (by omega)
      rw [show ((1 : Nat) : Int) = 1 from rfl] at e
      have := a0.2.1.1
      have := c'.2.1.1
      omega
  -- every page has one row
  have rz : ∀ k, 0 ≤ k → k ≤ 16 → g_bf P 0 k = k := by
    intro k k0 k1
    have lo := (inc k k0 k1).1
    have : g_bf P 0 k ≤ k := by
      refine q_upto (P := fun k => 0 ≤ k → g_bf P 0 k ≤ k) (a := k) (b := 16) k1 (fun _ => by have := bs 0 16 (by omega); rw [show ((0 : Nat) : Int) = 0 from rfl] at this; rw [this, show (16 : Int) - 1 = 15 by decide]; simp only [show (16 : Int) - 1 = 15 by decide] at hl; omega) (fun j a b ih c => ?_) k0
      have e := bs 0 (j + 1) (by omega)
      rw [show j + 1 - 1 = j by omega, show ((0 : Nat) : Int) = 0 from rfl] at e
      have := ih (by omega)
      have := (inc j c (by omega)).2 b
      omega
    omega
  have e0 : ∀ k, 0 ≤ k → k < 16 → P 0 k = k + 1 := fun k a b => by
    have e := bs 0 (k + 1) (by omega)
    rw [show k + 1 - 1 = k by omega, show ((0 : Nat) : Int) = 0 from rfl, rz (k + 1) (by omega) (by omega)] at e
    omega
  have e1 : ∀ k, 0 ≤ k → k < 16 → P 1 k = 0 := fun k a b => by
    have e := bs 1 (k + 1) (by omega)
    rw [show k + 1 - 1 = k by omega, show ((1 : Nat) : Int) = 1 from rfl, fz (k + 1) (by omega) (by omega)] at e
    omega
  -- no line waits
  have nz : ∀ k, 0 ≤ k → k ≤ 15 → g_bf P 2 k = T 2 k := by
    intro k k0 k1
    refine q_dnto (P := fun k => k ≤ 15 → g_bf P 2 k = T 2 k) (a := 0) (b := k) k0 (fun _ => by unfold g_bf; rw [if_pos (Int.le_refl _)]; exact hT.2.2.2.2.1.2.2.1.symm) (fun j a b ih c => ?_) k1
    have i := ih (by omega)
    obtain ⟨a', m', c', q1, q2⟩ := hP (j - 1) (by omega) (by omega)
    have m0 : m' = 0 := by have := e1 (j - 1) (by omega) (by omega); have := fz (j - 1) (by omega) (by omega); omega
    subst m0
    have e := bs 2 j (by omega)
    rw [show ((2 : Nat) : Int) = 2 from rfl] at e
    have t := th (j - 1) (by omega) (by omega)
    rw [show j - 1 + 1 = j by omega] at t
    have hD := hT.2.1
    rw [e, q2, rz (j - 1) (by omega) (by omega), fz (j - 1) (by omega) (by omega), i, e0 (j - 1) (by omega) (by omega), show j - 1 + 1 = j by omega]
    have mono := hT.2.2.2.2.2.2.1 (j - 1) j (by omega) (by omega) (by omega)
    unfold g_lines g_room g_high
    rw [show j - 1 + 1 = j by omega, Int.add_zero]
    split
    · omega
    · split <;> omega
  -- the last page with one float would cost less
  obtain ⟨m2, hbest, b1, b2, _⟩ := hb
  simp only [show (16 : Int) - 1 = 15 by decide] at *
  have m20 : m2 = 0 := by have := e1 15 (by omega) (by omega); have := fz 15 (by omega) (by omega); omega
  subst m20
  have x0 : g_x P 15 = 0 := by unfold g_x; rw [if_neg (by decide), if_neg (by decide)]
  rw [x0, rz 15 (by omega) (by omega), fz 15 (by omega) (by omega), nz 15 (by omega) (by omega), e0 15 (by omega) (by omega), show (15 : Int) + 1 = 16 by decide] at hbest
  have F4 : T 8 2 = 4 := by have := e1 15 (by omega) (by omega); omega
  have n15 := nz 15 (by omega) (by omega)
  have t15 := th 15 (by omega) (by omega)
  rw [show (15 : Int) + 1 = 16 by decide] at t15
  have p2' := p2
  rw [rz 15 (by omega) (by omega), fz 15 (by omega) (by omega), n15, e0 15 (by omega) (by omega), show (15 : Int) + 1 = 16 by decide] at p2'
  have mz : m = 0 := by have := e1 15 (by omega) (by omega); have := fz 15 (by omega) (by omega); omega
  subst mz
  have gat : g_at T 15 0 (T 2 15) := by
    have := at1
    rw [rz 15 (by omega) (by omega), fz 15 (by omega) (by omega), n15] at this
    exact this
  have := k_ct_last hT R16 F4 t15 hbest gat
  rw [e1 15 (by omega) (by omega), p2'] at neg
  omega
