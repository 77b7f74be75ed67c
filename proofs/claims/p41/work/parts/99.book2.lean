/-! ===== rows of words, pages of rows ===== -/
theorem p_sum_th {g : Int → Int} {t n : Int} (h1 : ∀ k, 0 ≤ k → k < t → g k = 1) (h0 : ∀ k, t ≤ k → k < n → g k = 0) (ht : 0 ≤ t ∧ t ≤ n) : p_sum g n = t := by
  have e1 : p_sum g t = t := q_upto (P := fun x => 0 ≤ x → p_sum g x = x → p_sum g t = t) ht.1 (fun _ q => q) (fun x x0 x1 ih _ q => ih (by omega) (by rw [p_sum_s x0, q, h1 x x0 x1])) (Int.le_refl _) rfl
  exact q_upto (P := fun x => t ≤ x → p_sum g x = t → p_sum g n = t) ht.2 (fun _ q => q) (fun x x0 x1 ih _ q => ih (by omega) (by rw [p_sum_s (by omega), q, h0 x x0 x1]; omega)) (Int.le_refl _) e1
/-- the row of a word; the page of a row, 0 for the first -/
def c_row (A : pA) (i w : Int) : Int := p_SR A i + p_sum (fun s => if A 3 i s ≤ w then 1 else 0) (A 2 i 0)
def c_pg (P : pT) (ct r : Int) : Int := p_sum (fun k => if P 0 k ≤ r then 1 else 0) ct
theorem p_line_mono {A : pA} {cnt i : Int} (hA : p_okA A cnt) (hi : 0 ≤ i ∧ i < cnt) (hh : A 0 i 0 = 0) {s t : Int} (hs : 0 ≤ s) (hst : s ≤ t) (ht : t < A 2 i 0) : A 3 i s ≤ A 3 i t := by
  rcases (hA.2.1 i hi.1 hi.2).2 with k | k
  · omega
  · exact q_upto (P := fun x => s ≤ x → A 3 i s ≤ A 3 i x → A 3 i s ≤ A 3 i t) hst (fun _ q => q) (fun x x0 x1 ih _ q => ih (by omega) (by have := k.2.2.2.2.1 x (by omega) (by omega); omega)) (Int.le_refl _) (Int.le_refl _)
theorem c_row_at {A : pA} {cnt r w : Int} (hA : p_okA A cnt) (hr : 0 ≤ r ∧ r < p_SR A cnt) (hw : p_fr A r ≤ w ∧ w < p_to A r) : c_row A (p_ri A r) w = r := by
  obtain ⟨i, s, hi, hs, rs, e1, e2⟩ := p_row_dec hA hr
  have hh : A 0 i 0 = 0 := by
    refine Classical.byContradiction fun z => ?_
    unfold p_fr p_to at hw
    rw [e1, if_neg z, if_neg z] at hw
    omega
  unfold p_fr p_to at hw
  rw [e1, e2, if_pos hh, if_pos hh] at hw
  unfold c_row
  rw [e1, p_sum_th (t := s) (fun k k0 k1 => ?_) (fun k k0 k1 => ?_) (by omega)]
  · exact rs.symm
  · have := p_line_mono hA hi hh k0 (show k ≤ s - 1 by omega) (by omega)
    rw [if_neg (by omega)] at hw
    rw [if_pos (by omega)]
  · have := p_line_mono hA hi hh hs.1 k0 k1
    rw [if_neg (by omega)]
theorem c_row_ex {A : pA} {cnt i w : Int} (hA : p_okA A cnt) (hi : 0 ≤ i ∧ i < cnt) (hw : 0 ≤ w ∧ w < A 6 i 0) : ∃ r, (0 ≤ r ∧ r < p_SR A cnt) ∧ p_ri A r = i ∧ p_fr A r ≤ w ∧ w < p_to A r := by
  rcases (hA.2.1 i hi.1 hi.2).2 with k | k
  · omega
  · obtain ⟨k1, k2, k3, k4, k5, k6⟩ := k
    have main : ∃ s, (0 ≤ s ∧ s < A 2 i 0) ∧ (s = 0 ∨ A 3 i (s - 1) ≤ w) ∧ w < A 3 i s := by
      refine q_upto (P := fun x => 0 ≤ x → (x = 0 ∨ A 3 i (x - 1) ≤ w) → ∃ s, (0 ≤ s ∧ s < A 2 i 0) ∧ (s = 0 ∨ A 3 i (s - 1) ≤ w) ∧ w < A 3 i s) (a := 0) (b := A 2 i 0 - 1) (by omega) (fun _ q => ⟨A 2 i 0 - 1, by omega, q, by omega⟩) (fun x x0 x1 ih _ q => ?_) (Int.le_refl _) (Or.inl rfl)
      by_cases e : w < A 3 i x
      · exact ⟨x, by omega, q, e⟩
      · exact ih (by omega) (Or.inr (by rw [show x + 1 - 1 = x by omega]; omega))
    obtain ⟨s, hs, h1, h2⟩ := main
    have rc := p_rc_at hA i s hi.1 hi.2 hs.1 hs.2
    have sr := p_SR_s (A := A) hi.1
    have le := p_SR_le hA (i := i + 1) ⟨by omega, by omega⟩
    have e1 : p_ri A (p_SR A i + s) = i := by unfold p_ri; rw [rc.1]
    have e2 : p_rl A (p_SR A i + s) = s := by unfold p_rl; rw [rc.1]
    refine ⟨p_SR A i + s, ⟨by omega, by omega⟩, e1, ?_, ?_⟩
    · unfold p_fr
      rw [e1, e2, if_pos k1]
      split
      · omega
      · omega
    · unfold p_to
      rw [e1, e2, if_pos k1]; exact h2
/-- what is known of the pages of a chapter -/
def g_pages (T P : pT) (c cw : Int) : Prop := (0 < cw ∧ cw ≤ c ∧ cw ≤ T 8 0 ∧ c ≤ cw + 16) ∧ (∀ k, 0 ≤ k → k < cw → g_bf P 0 k < T 8 0 ∧ ∃ m, g_can T (g_bf P 0 k) (g_bf P 1 k) (g_bf P 2 k) (P 0 k) m ∧ g_pg T P k (P 0 k) m) ∧ (∀ k, cw ≤ k → k < c → g_pZ T P k) ∧ (∀ k, cw ≤ k → k ≤ c → g_bf P 0 k = T 8 0) ∧ (∀ k, 0 ≤ k → k ≤ c → g_at T (g_bf P 0 k) (g_bf P 1 k) (g_bf P 2 k)) ∧ g_bf P 1 c = T 8 2 ∧ g_bf P 2 c = T 8 3
theorem g_pages_of {T P : pT} {keep : pT → Int → Prop} {c cost : Int} (hT : g_tab T) (h : g_made T keep P c cost) (hk : ∀ Q n, keep Q n → n = 0 ∨ ∃ O same wo, g_kept T O same wo Q n) : ∃ cw, g_pages T P c cw := by
  obtain ⟨Pk, ck, hkp, hso, hlt, hV, ⟨cw, a1, a2, a3, a4, a5, a6, a7, a8⟩, _⟩ := h
  have c0 := hso.1.1
  have pgs : ∀ k, 0 ≤ k → k < cw → g_bf P 0 k < T 8 0 ∧ ∃ m, g_can T (g_bf P 0 k) (g_bf P 1 k) (g_bf P 2 k) (P 0 k) m ∧ g_pg T P k (P 0 k) m := fun k k0 k1 => by
    by_cases q : k < ck
    · rcases hk Pk ck hkp with z | ⟨O, same, wo, z⟩
      · omega
      · obtain ⟨⟨_, g2⟩, g3⟩ := z.2.1 k k0 q
        obtain ⟨e0, e1, e2, _⟩ := g_bf_c a3 (k := k) (by omega)
        unfold g_pg at g3
        rw [← e0, ← e1, ← e2] at g2 g3
        rw [← g3.1] at g2 g3
        rw [← a3 0 k q, ← a3 1 k q, ← a3 2 k q, ← a3 3 k q, ← a3 4 k q] at g3
        rw [← a3 0 k q] at g2
        exact ⟨by have := g2.1; omega, _, g2, g3⟩
    · obtain ⟨⟨m, b1, b2⟩, b3⟩ := a4 k (by omega) k1
      exact ⟨b3, m, b1.1, rfl, b2⟩
  have at' : ∀ n : Nat, (n : Int) ≤ c → g_at T (g_bf P 0 n) (g_bf P 1 n) (g_bf P 2 n) := by
    intro n
    induction n with
    | zero =>
      intro _
      have e : ∀ j : Int, g_bf P j ((0 : Nat) : Int) = 0 := fun j => by unfold g_bf; rw [if_pos (by omega)]
      rw [e, e, e]
      exact g_at_0 hT
    | succ n ih =>
      intro hn
      have i1 := ih (by omega)
      have e : ∀ j : Int, g_bf P j ((n + 1 : Nat) : Int) = P j.toNat (n : Int) := fun j => by rw [show ((n + 1 : Nat) : Int) = (n : Int) + 1 by omega]; exact g_bf_s (by omega)
      rw [e, e, e]
      show g_at T (P 0 n) (P 1 n) (P 2 n)
      by_cases q : (n : Int) < cw
      · obtain ⟨_, m, g1, _, g3, g4, _⟩ := pgs n (by omega) q
        rw [g3, g4]
        exact g_next hT i1 g1.1 ⟨g1.2.1.1, g1.2.1.2.2⟩ g1.2.2
      · obtain ⟨_, z1, z2, z3, _⟩ := a5 n (by omega) (by omega)
        have i6 := a6 n (by omega) (by omega)
        rw [i6] at i1
        have ends := hT.2.2.2.2.2.1
        obtain ⟨i2, i3, i4⟩ := i1
        have bf := (g_bF_p hT (f := g_bf P 1 n) (by omega)).1
        have bl := (g_b_go hT (f := g_bf P 1 n) (n := g_bf P 2 n) (by omega) (by have := hT.2.2.2.1; have := (g_tab_at hT i2).2.2.2; omega)).1
        rw [z1, z2, z3]
        exact ⟨i2, by omega, by omega⟩
  refine ⟨cw, ⟨by omega, a1.2, a2.1, a2.2⟩, pgs, a5, a6, fun k k0 k1 => ?_, a7, a8⟩
  have := at' k.toNat (by omega)
  rw [show ((k.toNat : Nat) : Int) = k by omega] at this
  exact this
theorem g_pages_up {T P : pT} {c cw : Int} (h : g_pages T P c cw) : ∀ k, 0 ≤ k → k < c → g_bf P 0 k ≤ P 0 k ∧ P 0 k ≤ T 8 0 ∧ (k < cw → g_bf P 0 k < P 0 k) ∧ (cw ≤ k → P 0 k = T 8 0) := fun k k0 k1 => by
  obtain ⟨h1, h2, h3, h4, h5, h6, h7⟩ := h
  by_cases q : k < cw
  · obtain ⟨_, m, g, _⟩ := h2 k k0 q
    have := g.1
    exact ⟨by omega, by omega, fun _ => by omega, fun z => by omega⟩
  · have a := h4 k (by omega) (by omega)
    have b := (h3 k (by omega) k1).2.1
    exact ⟨by omega, by omega, fun z => by omega, fun _ => b⟩
theorem g_pages_mono {T P : pT} {c cw : Int} (h : g_pages T P c cw) {k l : Int} (hk : 0 ≤ k) (hkl : k ≤ l) (hl : l < c) : P 0 k ≤ P 0 l := by
  refine q_upto (P := fun x => k ≤ x → P 0 k ≤ P 0 x → P 0 k ≤ P 0 l) hkl (fun _ q => q) (fun x x0 x1 ih _ q => ih (by omega) ?_) (Int.le_refl _) (Int.le_refl _)
  have := (g_pages_up h (x + 1) (by omega) (by omega)).1
  have e : g_bf P 0 (x + 1) = P 0 x := g_bf_s (by omega)
  omega
theorem c_pg_at {T P : pT} {c cw k r : Int} (h : g_pages T P c cw) (hk : 0 ≤ k ∧ k < c) (hr : g_bf P 0 k ≤ r ∧ r < P 0 k) : c_pg P c r = k := by
  unfold c_pg
  refine p_sum_th (fun l l0 l1 => ?_) (fun l l0 l1 => ?_) ⟨hk.1, by omega⟩
  · have m := g_pages_mono h l0 (show l ≤ k - 1 by omega) (by omega)
    have e : g_bf P 0 (k - 1 + 1) = P 0 (k - 1) := g_bf_s (by omega)
    rw [show k - 1 + 1 = k by omega] at e
    rw [if_pos (by omega)]
  · have m := g_pages_mono h hk.1 l0 l1
    rw [if_neg (by omega)]
theorem c_pg_ex {T P : pT} {c cw r : Int} (h : g_pages T P c cw) (hr : 0 ≤ r ∧ r < T 8 0) : ∃ k, (0 ≤ k ∧ k < cw) ∧ g_bf P 0 k ≤ r ∧ r < P 0 k := by
  obtain ⟨h1, h2, h3, h4, h5, h6, h7⟩ := id h
  refine q_upto (P := fun x => 0 ≤ x → g_bf P 0 x ≤ r → ∃ k, (0 ≤ k ∧ k < cw) ∧ g_bf P 0 k ≤ r ∧ r < P 0 k) (a := 0) (b := cw) (by omega) (fun _ q => ?_) (fun x x0 x1 ih _ q => ?_) (Int.le_refl _) (by unfold g_bf; rw [if_pos (Int.le_refl _)]; exact hr.1)
  · have := h4 cw (Int.le_refl _) h1.2.1; omega
  · by_cases e : r < P 0 x
    · exact ⟨x, ⟨x0, x1⟩, q, e⟩
    · exact ih (by omega) (by rw [g_bf_s x0]; show P 0 x ≤ r; omega)
