/-! ===== the tables out of a chapter ===== -/
/-- a chapter whose words are words, with not too many rows -/
def p_okB (A : pA) (cnt : Int) : Prop := p_okA A cnt ∧ (∀ i w, 0 ≤ i → i < cnt → 0 ≤ w → w < A 6 i 0 → (A 4 i w = 3 → 2 ≤ A 5 i w ∧ A 5 i w ≤ 5) ∧ (A 4 i w = 2 → 1 ≤ A 5 i w ∧ A 5 i w ≤ 4)) ∧ p_SR A cnt ≤ 67
/-- from one word to a later one -/
def p_from (A : pA) (F0 N0 L0 : Int) (i w : Int) : Prop := F0 ≤ p_FB A i w ∧ N0 ≤ p_NB A i w ∧ L0 ≤ p_LS A i w ∧ (p_NB A i w = N0 → p_LS A i w = L0) ∧ 0 ≤ p_LS A i w ∧ p_LS A i w ≤ p_NB A i w ∧ p_NB A i w ≤ p_LS A i w + 3
theorem p_from_w {A : pA} {cnt F0 N0 L0 i w w' : Int} (h : p_okB A cnt) (hi : 0 ≤ i ∧ i < cnt) (hw : 0 ≤ w ∧ w ≤ w' ∧ w' ≤ A 6 i 0) (hf : p_from A F0 N0 L0 i w) : p_from A F0 N0 L0 i w' := by
  refine q_dnto (P := fun x => x ≤ A 6 i 0 → p_from A F0 N0 L0 i x) (a := w) (b := w') hw.2.1 (fun _ => hf) (fun x x0 x1 ih x2 => ?_) hw.2.2
  obtain ⟨f1, f2, f3, f4, f5, f6, f7⟩ := ih (by omega)
  have e1 := p_FB_s (A := A) (i := i) (w := x - 1) (by omega)
  have e2 := p_NB_s (A := A) (i := i) (w := x - 1) (by omega)
  have e3 := p_LS_s (A := A) (i := i) (w := x - 1) (by omega)
  have ok := h.2.1 i (x - 1) hi.1 hi.2 (by omega) (by omega)
  rw [show x - 1 + 1 = x by omega] at e1 e2 e3
  unfold p_from
  by_cases k : A 4 i (x - 1) = 2
  · have := ok.2 k
    rw [if_pos k] at e2 e3
    rw [if_neg (by omega)] at e1
    omega
  · rw [if_neg k] at e2 e3
    have : 0 ≤ (if A 4 i (x - 1) = 3 then (1 : Int) else 0) := by split <;> omega
    refine ⟨by omega, by omega, by omega, fun q => ?_, by omega, by omega, by omega⟩
    rw [e3]; exact f4 (by omega)
theorem p_from_i {A : pA} {cnt F0 N0 L0 i i' w w' : Int} (h : p_okB A cnt) (hi : 0 ≤ i ∧ i ≤ i' ∧ i' < cnt) (hw : 0 ≤ w ∧ w ≤ A 6 i 0) (hw' : 0 ≤ w' ∧ w' ≤ A 6 i' 0) (hl : i < i' ∨ w ≤ w') (hf : p_from A F0 N0 L0 i w) : p_from A F0 N0 L0 i' w' := by
  by_cases e : i = i'
  · subst e
    exact p_from_w h ⟨hi.1, hi.2.2⟩ ⟨hw.1, by omega, hw'.2⟩ hf
  · have h0 : p_from A F0 N0 L0 i' 0 := by
      refine q_dnto (P := fun x => x < cnt → p_from A F0 N0 L0 x 0) (a := i + 1) (b := i') (by omega) (fun _ => ?_) (fun x x0 x1 ih x2 => ?_) hi.2.2
      · have := p_from_w h ⟨hi.1, by omega⟩ (w' := A 6 i 0) ⟨hw.1, hw.2, Int.le_refl _⟩ hf
        unfold p_from at this ⊢
        rw [p_FB_i hi.1, p_NB_i hi.1, p_LS_i hi.1]
        exact this
      · have h6 := p_okA_6 h.1 (i := x - 1) ⟨by omega, by omega⟩
        have := p_from_w h (i := x - 1) ⟨by omega, by omega⟩ (w := 0) (w' := A 6 (x - 1) 0) ⟨Int.le_refl _, by omega, Int.le_refl _⟩ (ih (by omega))
        unfold p_from at this ⊢
        have e1 := p_FB_i (A := A) (i := x - 1) (by omega)
        have e2 := p_NB_i (A := A) (i := x - 1) (by omega)
        have e3 := p_LS_i (A := A) (i := x - 1) (by omega)
        rw [show x - 1 + 1 = x by omega] at e1 e2 e3
        rw [e1, e2, e3]
        exact this
    exact p_from_w h ⟨by omega, hi.2.2⟩ ⟨Int.le_refl _, hw'.1, hw'.2⟩ h0
theorem p_from_0 {A : pA} : p_from A 0 0 0 0 0 := by
  have a1 : p_FB A 0 0 = 0 := rfl
  have a2 : p_NB A 0 0 = 0 := rfl
  have a3 : p_LS A 0 0 = 0 := rfl
  unfold p_from
  rw [a1, a2, a3]
  omega
/-- what is summed up to a row, from row to row -/
theorem p_row_mono {A : pA} {cnt a b : Int} (h : p_okB A cnt) (hab : 0 ≤ a ∧ a ≤ b ∧ b ≤ p_SR A cnt) : p_fl A a ≤ p_fl A b ∧ p_nl A a ≤ p_nl A b ∧ p_ls A a ≤ p_ls A b ∧ (p_nl A b = p_nl A a → p_ls A b = p_ls A a) ∧ 0 ≤ p_ls A b ∧ p_ls A b ≤ p_nl A b ∧ p_nl A b ≤ p_ls A b + 3 := by
  have h0 : p_fl A 0 = 0 ∧ p_nl A 0 = 0 ∧ p_ls A 0 = 0 := ⟨rfl, rfl, rfl⟩
  by_cases b0 : b = 0
  · have a0 : a = 0 := by omega
    rw [a0, b0, h0.1, h0.2.1, h0.2.2]; omega
  · have rb := p_row_in h.1 (r := b - 1) ⟨by omega, by omega⟩
    have eb : p_fl A b = p_FB A (p_ri A (b - 1)) (p_to A (b - 1)) ∧ p_nl A b = p_NB A (p_ri A (b - 1)) (p_to A (b - 1)) ∧ p_ls A b = p_LS A (p_ri A (b - 1)) (p_to A (b - 1)) := by
      unfold p_fl p_nl p_ls
      rw [if_neg (by omega), if_neg (by omega), if_neg (by omega)]
      exact ⟨rfl, rfl, rfl⟩
    by_cases a0 : a = 0
    · have := p_from_i h (i := 0) (i' := p_ri A (b - 1)) (w := 0) (w' := p_to A (b - 1)) ⟨by omega, rb.1.1, rb.1.2⟩ ⟨by omega, (p_okA_6 h.1 (i := 0) ⟨by omega, by omega⟩).1⟩ ⟨by omega, by omega⟩ (by omega) p_from_0
      rw [a0, h0.1, h0.2.1, h0.2.2, eb.1, eb.2.1, eb.2.2]
      exact this
    · have ra := p_row_in h.1 (r := a - 1) ⟨by omega, by omega⟩
      have ea : p_fl A a = p_FB A (p_ri A (a - 1)) (p_to A (a - 1)) ∧ p_nl A a = p_NB A (p_ri A (a - 1)) (p_to A (a - 1)) ∧ p_ls A a = p_LS A (p_ri A (a - 1)) (p_to A (a - 1)) := by
        unfold p_fl p_nl p_ls
        rw [if_neg (by omega), if_neg (by omega), if_neg (by omega)]
        exact ⟨rfl, rfl, rfl⟩
      have fa := p_from_i h (i := 0) (i' := p_ri A (a - 1)) (w := 0) (w' := p_to A (a - 1)) ⟨by omega, ra.1.1, ra.1.2⟩ ⟨by omega, (p_okA_6 h.1 (i := 0) ⟨by omega, by omega⟩).1⟩ ⟨by omega, by omega⟩ (by omega) p_from_0
      have self : p_from A (p_fl A a) (p_nl A a) (p_ls A a) (p_ri A (a - 1)) (p_to A (a - 1)) := by
        rw [ea.1, ea.2.1, ea.2.2]
        unfold p_from at fa ⊢
        omega
      rw [eb.1, eb.2.1, eb.2.2]
      by_cases e : a = b
      · rw [← e]; exact self
      · have lt := p_row_lt h.1 (q := a - 1) (r := b - 1) (by omega) (by omega) (by omega)
        exact p_from_i h ⟨ra.1.1, by omega, rb.1.2⟩ ⟨by omega, by omega⟩ ⟨by omega, by omega⟩ (by omega) self
/-- which float it is -/
theorem p_sum_find {g : Int → Int} {k : Int} : ∀ n : Nat, (∀ x : Int, 0 ≤ x → x < (n : Int) → 0 ≤ g x) → 0 ≤ k → k < p_sum g (n : Int) → ∃ x : Int, 0 ≤ x ∧ x < (n : Int) ∧ p_sum g x ≤ k ∧ k < p_sum g x + g x
  | 0, _, h0, h1 => by have : p_sum g ((0 : Nat) : Int) = 0 := rfl; omega
  | n + 1, hg, h0, h1 => by
    have e := p_sum_s (g := g) (x := (n : Int)) (by omega)
    by_cases h : k < p_sum g n
    · obtain ⟨x, x0, x1, x2⟩ := p_sum_find n (fun x a b => hg x a (by omega)) h0 h
      exact ⟨x, x0, by omega, x2⟩
    · refine ⟨n, by omega, by omega, by omega, ?_⟩
      rw [← e, show (n : Int) + 1 = ((n + 1 : Nat) : Int) by omega]
      exact h1
theorem p_float_ex {A : pA} {cnt k : Int} (h : p_okA A cnt) (hk : 0 ≤ k ∧ k < p_SF A cnt) : ∃ i w, (0 ≤ i ∧ i < cnt) ∧ (0 ≤ w ∧ w < A 6 i 0) ∧ A 4 i w = 3 ∧ p_FB A i w = k := by
  have hc := h.1
  have pf : ∀ j : Int, ∀ x, 0 ≤ (fun x => if A 4 j x = 3 then (1 : Int) else 0) x := fun j x => by show 0 ≤ (if _ then (1 : Int) else 0); split <;> omega
  obtain ⟨i, i0, i1, i2, i3⟩ := p_sum_find (g := fun x => p_PF A x (A 6 x 0)) (k := k) cnt.toNat (fun x a b => p_sum_mono (a := 0) (fun y _ _ => pf x y) (Int.le_refl _) (p_okA_6 h ⟨a, by omega⟩).1) hk.1 (by rw [show ((cnt.toNat : Nat) : Int) = cnt by omega]; exact hk.2)
  have h6 := p_okA_6 h (i := i) ⟨i0, by omega⟩
  have i2' : p_SF A i ≤ k := i2
  have i3' : k < p_SF A i + p_PF A i (A 6 i 0) := i3
  obtain ⟨w, w0, w1, w2, w3⟩ := p_sum_find (g := fun x => if A 4 i x = 3 then (1 : Int) else 0) (k := k - p_SF A i) (A 6 i 0).toNat (fun x _ _ => pf i x) (by omega) (by rw [show (((A 6 i 0).toNat : Nat) : Int) = A 6 i 0 by omega]; show k - p_SF A i < p_PF A i (A 6 i 0); omega)
  have w2' : p_PF A i w ≤ k - p_SF A i := w2
  have w3' : k - p_SF A i < p_PF A i w + (if A 4 i w = 3 then (1 : Int) else 0) := w3
  refine ⟨i, w, ⟨i0, by omega⟩, ⟨w0, by omega⟩, ?_, ?_⟩
  · refine Classical.byContradiction fun z => ?_
    rw [if_neg z] at w3'
    omega
  · unfold p_FB
    split at w3' <;> omega
theorem p_float_u {A : pA} {cnt i w i' w' : Int} (h : p_okA A cnt) (hi : 0 ≤ i ∧ i < cnt) (hw : 0 ≤ w ∧ w < A 6 i 0) (hi' : 0 ≤ i' ∧ i' < cnt) (hw' : 0 ≤ w' ∧ w' < A 6 i' 0) (k : A 4 i w = 3) (k' : A 4 i' w' = 3) (e : p_FB A i w = p_FB A i' w') : i = i' ∧ w = w' := by
  by_cases h1 : i < i' ∨ (i = i' ∧ w < w')
  · have := (p_FB_mono h ⟨hi.1, by omega⟩ hw ⟨hw'.1, Or.inl hi'.2⟩ h1).1
    rw [if_pos k] at this
    omega
  · by_cases h2 : i' < i ∨ (i' = i ∧ w' < w)
    · have := (p_FB_mono h ⟨hi'.1, by omega⟩ hw' ⟨hw.1, Or.inl hi.2⟩ h2).1
      rw [if_pos k'] at this
      omega
    · omega
/-- the height of a float, by its number -/
noncomputable def p_fv (A : pA) (cnt k : Int) : Int := Classical.epsilon (fun v : Int => ∃ i w, (0 ≤ i ∧ i < cnt) ∧ (0 ≤ w ∧ w < A 6 i 0) ∧ A 4 i w = 3 ∧ p_FB A i w = k ∧ v = A 5 i w)
theorem p_fv_p {A : pA} {cnt i w : Int} (h : p_okA A cnt) (hi : 0 ≤ i ∧ i < cnt) (hw : 0 ≤ w ∧ w < A 6 i 0) (k : A 4 i w = 3) : p_fv A cnt (p_FB A i w) = A 5 i w := by
  have := Classical.epsilon_spec (p := fun v : Int => ∃ i' w', (0 ≤ i' ∧ i' < cnt) ∧ (0 ≤ w' ∧ w' < A 6 i' 0) ∧ A 4 i' w' = 3 ∧ p_FB A i' w' = p_FB A i w ∧ v = A 5 i' w') ⟨A 5 i w, i, w, hi, hw, k, rfl, rfl⟩
  obtain ⟨i', w', a1, a2, a3, a4, a5⟩ := this
  obtain ⟨e1, e2⟩ := p_float_u h a1 a2 hi hw a3 k a4
  show Classical.epsilon _ = _
  rw [a5, e1, e2]
noncomputable def p_hi (A : pA) (cnt k : Int) : Int := p_sum (p_fv A cnt) k
noncomputable def p_T (A : pA) (cnt D : Int) : pT := fun k x => if k = 0 then p_bl A x else if k = 1 then p_fl A x else if k = 2 then p_nl A x else if k = 3 then p_ls A x else if k = 4 then p_hi A cnt x else if k = 5 then p_f1 A x else if k = 6 then p_l1 A x else if k = 7 then (if 0 ≤ x ∧ x < p_SR A cnt then p_nd A x else 0) else if x = 0 then p_SR A cnt else if x = 1 then D else if x = 2 then p_SF A cnt else p_SN A cnt
theorem p_T_8 {A : pA} {cnt D : Int} : p_T A cnt D 8 0 = p_SR A cnt ∧ p_T A cnt D 8 1 = D ∧ p_T A cnt D 8 2 = p_SF A cnt ∧ p_T A cnt D 8 3 = p_SN A cnt := ⟨rfl, rfl, rfl, rfl⟩
theorem p_fv_bd {A : pA} {cnt k : Int} (h : p_okB A cnt) (hk : 0 ≤ k ∧ k < p_SF A cnt) : 2 ≤ p_fv A cnt k ∧ p_fv A cnt k ≤ 5 := by
  obtain ⟨i, w, a1, a2, a3, a4⟩ := p_float_ex h.1 hk
  rw [← a4, p_fv_p h.1 a1 a2 a3]
  exact (h.2.1 i w a1.1 a1.2 a2.1 a2.2).1 a3
theorem p_T_end {A : pA} {cnt : Int} (h : p_okB A cnt) : p_fl A (p_SR A cnt) = p_SF A cnt ∧ p_nl A (p_SR A cnt) = p_SN A cnt := by
  have hc := h.1.1
  by_cases c0 : cnt = 0
  · rw [c0]; exact ⟨rfl, rfl⟩
  · have h6 := p_okA_6 h.1 (i := cnt - 1) ⟨by omega, by omega⟩
    have sR := p_SR_s (A := A) (i := cnt - 1) (by omega)
    have at0 := p_rc_at h.1 (cnt - 1) (A 2 (cnt - 1) 0 - 1) (by omega) (by omega) (by omega) (by omega)
    rw [show cnt - 1 + 1 = cnt by omega] at sR
    have er : p_SR A (cnt - 1) + (A 2 (cnt - 1) 0 - 1) = p_SR A cnt - 1 := by omega
    rw [er] at at0
    have e1 : p_ri A (p_SR A cnt - 1) = cnt - 1 := by unfold p_ri; rw [at0.1]
    have e2 : p_rl A (p_SR A cnt - 1) = A 2 (cnt - 1) 0 - 1 := by unfold p_rl; rw [at0.1]
    have e3 : p_to A (p_SR A cnt - 1) = A 6 (cnt - 1) 0 := by
      unfold p_to
      rw [e1, e2]
      rcases (h.1.2.1 (cnt - 1) (by omega) (by omega)).2 with ⟨k1, k2, k3, k4⟩ | ⟨k1, k2, k3, k4, k5, k6⟩
      · rw [if_neg (by omega), k3]
      · rw [if_pos k1, k6]
    have f1 := p_FB_i (A := A) (i := cnt - 1) (by omega)
    have f2 := p_NB_i (A := A) (i := cnt - 1) (by omega)
    rw [show cnt - 1 + 1 = cnt by omega] at f1 f2
    have g1 : p_FB A cnt 0 = p_SF A cnt := by unfold p_FB p_PF; rw [p_sum_0]; omega
    have g2 : p_NB A cnt 0 = p_SN A cnt := by unfold p_NB p_PN; rw [p_sum_0]; omega
    unfold p_fl p_nl
    rw [if_neg (by omega), if_neg (by omega), e1, e3, ← f1, ← f2, g1, g2]
    exact ⟨rfl, rfl⟩
theorem p_T_tab {A : pA} {cnt D : Int} (h : p_okB A cnt) (hD : 8 ≤ D ∧ D ≤ 14) : g_tab (p_T A cnt D) := by
  have hc := h.1.1
  have h0 : 0 ≤ p_SR A cnt := by have := p_SR_le h.1 (i := 0) ⟨by omega, hc.1⟩; have : p_SR A 0 = 0 := rfl; omega
  have e := p_T_end h
  have sf : 0 ≤ p_SF A cnt ∧ 0 ≤ p_SN A cnt := by
    have := p_row_mono h (a := 0) (b := p_SR A cnt) ⟨Int.le_refl _, h0, Int.le_refl _⟩
    have z : p_fl A 0 = 0 ∧ p_nl A 0 = 0 := ⟨rfl, rfl⟩
    omega
  refine ⟨⟨h0, by show p_SR A cnt ≤ 70; have := h.2.2; omega⟩, hD, ⟨sf.1, h.1.2.2.1⟩, ⟨sf.2, h.1.2.2.2.1⟩, ⟨rfl, rfl, rfl, rfl, rfl⟩, e, fun a b a0 ab bR => ?_, fun a a0 aR => ?_, fun a b a0 ab bF => ?_, fun a => ?_⟩
  · have m := p_row_mono h ⟨a0, ab, bR⟩
    have mb : p_bl A a ≤ p_bl A b ∧ p_bl A b ≤ p_bl A a + (b - a) := by
      refine q_dnto (P := fun x => p_bl A a ≤ p_bl A x ∧ p_bl A x ≤ p_bl A a + (x - a)) (a := a) (b := b) ab (by omega) (fun x x0 x1 ih => ?_)
      have s : p_bl A (x - 1 + 1) = p_bl A (x - 1) + p_ib A (x - 1) := p_sum_s (by omega)
      have : 0 ≤ p_ib A (x - 1) ∧ p_ib A (x - 1) ≤ 1 := by unfold p_ib; split <;> (try split) <;> omega
      rw [show x - 1 + 1 = x by omega] at s
      omega
    exact ⟨mb, m.1, m.2.1, m.2.2.1, fun q => (m.2.2.2.1 q.symm).symm⟩
  · have m := p_row_mono h (a := 0) ⟨Int.le_refl _, a0, aR⟩
    exact ⟨m.2.2.2.2.1, m.2.2.2.2.2.1, m.2.2.2.2.2.2⟩
  · have key : p_hi A cnt a + 2 * (b - a) ≤ p_hi A cnt b ∧ p_hi A cnt b ≤ p_hi A cnt a + 5 * (b - a) := by
      refine q_dnto (P := fun x => x ≤ p_SF A cnt → p_hi A cnt a + 2 * (x - a) ≤ p_hi A cnt x ∧ p_hi A cnt x ≤ p_hi A cnt a + 5 * (x - a)) (a := a) (b := b) ab (fun _ => by omega) (fun x x0 x1 ih x2 => ?_) bF
      have s : p_hi A cnt (x - 1 + 1) = p_hi A cnt (x - 1) + p_fv A cnt (x - 1) := p_sum_s (by omega)
      have := p_fv_bd h (k := x - 1) ⟨by omega, by omega⟩
      have := ih (by omega)
      rw [show x - 1 + 1 = x by omega] at s
      omega
    refine ⟨key.1, ?_, fun q => ?_⟩
    · show p_hi A cnt b ≤ p_hi A cnt a + 9 * (b - a); omega
    · show p_hi A cnt b ≤ p_hi A cnt a + 5; omega
  · show (if 0 ≤ a ∧ a < p_SR A cnt then p_nd A a else 0) ≤ 3
    split
    · rename_i k
      have ri := (p_row_in h.1 k).1
      unfold p_nd
      split
      · omega
      · rename_i k2
        rcases (h.1.2.1 _ ri.1 ri.2).2 with ⟨k1, _, _, _, k4⟩ | ⟨k1, _⟩
        · exact k4
        · exact absurd k1 k2
    · omega
/-- the class's rows hold the tables -/
theorem p_T_c {A : pA} {cnt D n : Int} {M : qM} (h : p_okB A cnt) (hr : p_rows A cnt n M) : g_cT (p_T A cnt D) n M := by
  obtain ⟨⟨r1, r2, r3⟩, ⟨w1, w2, w3, w4, w5, w6⟩, l⟩ := hr
  have hc := h.1.1
  have g1 : p_FB A cnt 0 = p_SF A cnt := by unfold p_FB p_PF; rw [p_sum_0]; omega
  have g2 : p_NB A cnt 0 = p_SN A cnt := by unfold p_NB p_PN; rw [p_sum_0]; omega
  refine ⟨r1, by rw [w1, g1]; rfl, by rw [w2, g2]; rfl, fun r a b => r3 r a b, fun k k0 k1 => ?_, fun r a b => ⟨(r2 r a b).2.2.2.2.1, (r2 r a b).2.2.2.2.2⟩, fun e e0 e1 => p_late_c (R := p_SR A cnt) (fun q q0 q1 => ?_) e1 (l e e0 e1)⟩
  · show M 61 n k = p_hi A cnt k
    refine q_dnto (P := fun x => x ≤ p_SF A cnt → M 61 n x = p_hi A cnt x) (a := 0) (b := k) k0 (fun _ => w4) (fun x x0 x1 ih x2 => ?_) k1
    obtain ⟨i, w, a1, a2, a3, a4⟩ := p_float_ex h.1 (k := x - 1) ⟨by omega, by omega⟩
    have w6' := ((w6 i w a1.1 a2.1 a2.2 (Or.inl a1.2)).1 a3).2
    have s : p_hi A cnt (x - 1 + 1) = p_hi A cnt (x - 1) + p_fv A cnt (x - 1) := p_sum_s (by omega)
    have ev := p_fv_p h.1 a1 a2 a3
    rw [a4] at w6' ev
    have := ih (by omega)
    rw [show x - 1 + 1 = x by omega] at w6' s
    omega
  · show p_nd A q = (if 0 ≤ q ∧ q < p_SR A cnt then p_nd A q else 0)
    rw [if_pos ⟨q0, q1⟩]
