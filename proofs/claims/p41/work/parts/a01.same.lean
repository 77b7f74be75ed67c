/-! ===== rows that are the same in two books ===== -/
/-- items x of two chapters have the same words -/
def c_sit (A A' : pA) (i : Int) : Prop := A' 0 i 0 = A 0 i 0 ∧ A' 6 i 0 = A 6 i 0 ∧ ∀ w, 0 ≤ w → w < A 6 i 0 → A' 4 i w = A 4 i w ∧ A' 5 i w = A 5 i w
def c_same (A A' : pA) (cnt cnt' : Int) (ss : Int → Prop) (r : Int) : Prop := (r < p_SR A cnt ∧ r < p_SR A' cnt') ∧ p_ri A r = p_ri A' r ∧ p_fr A r = p_fr A' r ∧ p_to A r = p_to A' r ∧ ss (p_ri A r)
theorem c_ghost_i {A A' : pA} {cnt cnt' b : Int} {ss : Int → Prop} (hA : p_okA A cnt) (hA' : p_okA A' cnt') (hs : ∀ r, 0 ≤ r → r < b → c_same A A' cnt cnt' ss r) (hb : 1 ≤ b) : ∀ x, 0 ≤ x → x ≤ p_ri A (b - 1) → ss x ∧ x < cnt ∧ x < cnt' := fun x x0 x1 => by
  have hb1 := hs (b - 1) (by omega) (by omega)
  obtain ⟨i, s, hi, hs', rs, e1, e2⟩ := p_row_dec hA (r := b - 1) ⟨by omega, hb1.1.1⟩
  rw [e1] at x1
  have a2 := p_okA_6 hA (i := x) ⟨x0, by omega⟩
  have rc := p_rc_at hA x 0 x0 (by omega) (Int.le_refl _) (by omega)
  rw [Int.add_zero] at rc
  have mono : p_SR A x ≤ p_SR A i := p_sum_mono (fun y y0 y1 => by have := p_okA_6 hA (i := y) ⟨by omega, by omega⟩; omega) x0 x1
  have sr := hs (p_SR A x) rc.2 (by omega)
  have ex : p_ri A (p_SR A x) = x := by unfold p_ri; rw [rc.1]
  have := (p_row_in hA' (r := p_SR A x) ⟨rc.2, sr.1.2⟩).1
  rw [← sr.2.1, ex] at this
  have sx := sr.2.2.2.2
  rw [ex] at sx
  exact ⟨sx, by omega, this.2⟩
theorem c_ghost_fl {A A' : pA} {cnt cnt' b : Int} {ss : Int → Prop} (hA : p_okA A cnt) (hA' : p_okA A' cnt') (hc : ∀ i, 0 ≤ i → i < cnt → i < cnt' → ss i → c_sit A A' i) (hs : ∀ r, 0 ≤ r → r < b → c_same A A' cnt cnt' ss r) : p_fl A' b = p_fl A b := by
  unfold p_fl
  by_cases hb : b ≤ 0
  · rw [if_pos hb, if_pos hb]
  · rw [if_neg hb, if_neg hb]
    have gi := c_ghost_i hA hA' hs (by omega)
    have hb1 := hs (b - 1) (by omega) (by omega)
    rw [← hb1.2.1, ← hb1.2.2.2.1]
    have ri := p_row_in hA (r := b - 1) ⟨by omega, hb1.1.1⟩
    generalize p_ri A (b - 1) = i at *
    generalize p_to A (b - 1) = t at *
    have pf : ∀ x, 0 ≤ x → x ≤ i → ∀ n, 0 ≤ n → n ≤ A 6 x 0 → p_PF A' x n = p_PF A x n := fun x x0 x1 n n0 n1 => by
      have g := gi x x0 x1
      have cx := hc x x0 g.2.1 g.2.2 g.1
      unfold p_PF
      exact p_sum_cg n0 (fun k k0 k1 => by rw [(cx.2.2 k k0 (by omega)).1])
    unfold p_FB p_SF
    rw [pf i ri.1.1 (Int.le_refl _) t (by omega) (by omega)]
    rw [p_sum_cg (g := fun x => p_PF A x (A 6 x 0)) ri.1.1 (fun k k0 k1 => by
      have g := gi k k0 (by omega)
      have cx := hc k k0 g.2.1 g.2.2 g.1
      have a6 := p_okA_6 hA (i := k) ⟨k0, by omega⟩
      show p_PF A' k (A' 6 k 0) = p_PF A k (A 6 k 0)
      rw [cx.2.1]
      exact pf k k0 (by omega) _ a6.1 (Int.le_refl _))]
theorem c_ghost_SR {A A' : pA} {cnt cnt' b : Int} {ss : Int → Prop} (hA : p_okA A cnt) (hA' : p_okA A' cnt') (hcc : cnt' ≤ cnt) (hc : ∀ i, 0 ≤ i → i < cnt → i < cnt' → ss i → c_sit A A' i) (hs : ∀ r, 0 ≤ r → r < b → c_same A A' cnt cnt' ss r) (hb : 1 ≤ b) (hb2 : b < p_SR A' cnt') : b < p_SR A cnt := by
  refine Classical.byContradiction fun z => ?_
  have hb1 := hs (b - 1) (by omega) (by omega)
  have gi := c_ghost_i hA hA' hs hb
  obtain ⟨i, s, hi, hs', rs, e1, e2⟩ := p_row_dec hA (r := b - 1) ⟨by omega, hb1.1.1⟩
  have sr := p_SR_s (A := A) hi.1
  have le := p_SR_le hA (i := i + 1) ⟨by omega, by omega⟩
  have ic : i = cnt - 1 := Classical.byContradiction fun z2 => by
    have sr2 := p_SR_s (A := A) (i := i + 1) (by omega)
    have le2 := p_SR_le hA (i := i + 1 + 1) ⟨by omega, by omega⟩
    have a2 := p_okA_6 hA (i := i + 1) ⟨by omega, by omega⟩
    omega
  rw [e1] at gi
  have gii := gi i hi.1 (Int.le_refl _)
  have cx := hc i hi.1 hi.2 gii.2.2 gii.1
  have cx1 := cx.1
  have cx2 := cx.2.1
  have lt := p_row_lt hA' (q := b - 1) (r := b) (by omega) (by omega) hb2
  rw [← hb1.2.1, ← hb1.2.2.2.1, e1] at lt
  have rb := p_row_in hA' (r := b) ⟨by omega, hb2⟩
  rcases lt with lt | ⟨l1, l2, l3⟩
  · omega
  · have rb1 := p_row_in hA' (r := b - 1) ⟨by omega, hb1.1.2⟩
    rw [← hb1.2.1, e1] at rb1
    have fr := p_fr_to hA' rb.1 rb.2.1
    rw [← l1] at fr rb
    have sA : s = A 2 i 0 - 1 := by omega
    have e3 : p_to A (b - 1) = if A 0 i 0 = 0 then A 3 i s else 0 := by unfold p_to; rw [e1, e2]
    rcases (hA.2.1 i hi.1 hi.2).2 with k | k
    · rcases (hA'.2.1 i hi.1 gii.2.2).2 with k' | k'
      · omega
      · omega
    · rw [if_pos k.1, sA, k.2.2.2.2.2] at e3
      have := fr.2.2.2 (by omega)
      omega
/-! ===== what was printed of a chapter ===== -/
theorem g_keepP_cg {T O P : pT} {same same' : Int → Prop} {wo n : Int} {on : Prop} (ho : g_old O wo) (hs : ∀ r, 0 ≤ r → (same r ↔ same' r)) (h : g_keepP T O same wo on P n) : g_keepP T O same' wo on P n := by
  rcases h with ⟨h1, h2, h3, h4⟩ | h
  · have kr : ∀ k, 0 ≤ k → k < wo → (g_kr O same k ↔ g_kr O same' k) := fun k k0 k1 => by
      have g0 := (ho.2 k k0 k1).1
      unfold g_kr
      exact ⟨fun q r r0 r1 => (hs r (by omega)).mp (q r r0 r1), fun q r r0 r1 => (hs r (by omega)).mpr (q r r0 r1)⟩
    refine Or.inl ⟨h1, h2, fun k k0 k1 => ?_, ?_⟩
    · obtain ⟨⟨a, b⟩, c⟩ := h3 k k0 k1
      exact ⟨⟨(kr k k0 (by omega)).mp a, b⟩, c⟩
    · rcases h4 with h4 | h4
      · exact Or.inl h4
      · by_cases q : wo - 1 ≤ n
        · exact Or.inl q
        · exact Or.inr (fun z => h4 ⟨(kr n h2.1 (by omega)).mpr z.1, z.2⟩)
  · exact Or.inr h
/-- the printed chapter: A', cnt', pages O, wo of them with rows -/
def c_was (A A' : pA) (cnt cnt' D' : Int) (ss : Int → Prop) (O : pT) (co wo : Int) : Prop := p_okB A' cnt' ∧ (8 ≤ D' ∧ D' ≤ 14) ∧ cnt' ≤ cnt ∧ (∀ i, 0 ≤ i → i < cnt → i < cnt' → ss i → c_sit A A' i) ∧ (cnt' ≤ 0 → wo = 0 ∧ co = 0) ∧ (0 < cnt' → g_pages (p_T A' cnt' D') O co wo)
theorem c_was_old {A A' : pA} {cnt cnt' D' : Int} {ss : Int → Prop} {O : pT} {co wo : Int} (h : c_was A A' cnt cnt' D' ss O co wo) : g_old O wo ∧ wo ≤ co := by
  obtain ⟨h1, h2, h3, h4, h5, h6⟩ := h
  by_cases q : 0 < cnt'
  · have hp := h6 q
    have hT := p_T_tab (D := D') h1 h2
    obtain ⟨g1, g2, g3, g4, g5, g6, g7⟩ := id hp
    have h70 := hT.1
    refine ⟨⟨by omega, fun k k0 k1 => ?_⟩, by omega⟩
    have up := g_pages_up hp k k0 (by omega)
    have a := g5 k k0 (by omega)
    obtain ⟨_, m, c, p⟩ := g2 k k0 k1
    have c2 := c.2.1
    have t1 := (g_tab_at hT (a := O 0 k) ⟨by have := c.1; have := a.1; omega, up.2.1⟩).2.1
    have f4 := hT.2.2.1
    have e : O 1 k = g_bf O 1 k + m := p.2.1
    have a2 := a.2.1
    have a1 := a.1
    exact ⟨⟨a1.1, up.2.2.1 k1, by omega⟩, ⟨a2.1, by omega, by omega⟩⟩
  · have := h5 (by omega)
    exact ⟨⟨by omega, fun k k0 k1 => by omega⟩, by omega⟩
theorem c_was_page {A A' : pA} {cnt cnt' D' : Int} {ss : Int → Prop} {O : pT} {co wo k : Int} (hA : p_okA A cnt) (h : c_was A A' cnt cnt' D' ss O co wo) (hk : 0 ≤ k ∧ k < wo - 1) (hs : ∀ r, 0 ≤ r → r < O 0 k → c_same A A' cnt cnt' ss r) : O 1 k ≤ p_fl A (O 0 k) ∧ O 1 k ≤ g_bf O 1 k + 2 ∧ O 0 k < p_SR A cnt := by
  obtain ⟨h1, h2, h3, h4, h5, h6⟩ := h
  have q : 0 < cnt' := Classical.byContradiction fun z => by have := h5 (by omega); omega
  have hp := h6 q
  obtain ⟨g1, g2, g3, g4, g5, g6, g7⟩ := id hp
  have up := g_pages_up hp k hk.1 (by omega)
  have at' := (g5 k hk.1 (by omega)).1
  have b1 := up.2.2.1 (by omega)
  obtain ⟨_, m, c, p⟩ := g2 k hk.1 (by omega)
  have nx := (g2 (k + 1) (by omega) (by omega)).1
  have e : g_bf O 0 (k + 1) = O 0 k := g_bf_s hk.1
  have e1 : O 1 k = g_bf O 1 k + m := p.2.1
  have fl := c_ghost_fl hA h1.1 h4 hs
  have sr := c_ghost_SR hA h1.1 h3 h4 hs (by omega) (by rw [e] at nx; exact nx)
  have c1 : g_bf O 1 k + m ≤ p_fl A' (O 0 k) := c.2.1.2.2
  have c2 := c.2.1
  exact ⟨by omega, by omega, sr⟩
theorem c_was_R {A A' : pA} {cnt cnt' D D' : Int} {ss : Int → Prop} {O Q : pT} {co wo n : Int} {on : Prop} (hA : p_okA A cnt) (h0 : 0 < p_SR A cnt) (h : c_was A A' cnt cnt' D' ss O co wo) (hq : g_keepP (p_T A cnt D) O (c_same A A' cnt cnt' ss) wo on Q n) : g_bf Q 0 n < p_SR A cnt := by
  have z : g_bf Q 0 0 = 0 := by unfold g_bf; rw [if_pos (Int.le_refl _)]
  have ho := (c_was_old h).1
  rcases hq with ⟨_, ⟨n0, n1⟩, kp, _⟩ | ⟨_, rfl⟩
  · by_cases e : n = 0
    · rw [e, z]; exact h0
    · have n2 : n ≤ wo - 1 := by omega
      have k1 := kp (n - 1) (by omega) (by omega)
      have eq : g_bf Q 0 (n - 1 + 1) = Q 0 (n - 1) := g_bf_s (by omega)
      rw [show n - 1 + 1 = n by omega, k1.2.1] at eq
      rw [eq]
      have rows : ∀ m : Nat, (m : Int) ≤ n → ∀ r, 0 ≤ r → r < g_bf O 0 m → c_same A A' cnt cnt' ss r := by
        intro m
        induction m with
        | zero =>
          intro _ r r0 r1
          have : g_bf O 0 ((0 : Nat) : Int) = 0 := by unfold g_bf; rw [if_pos (by omega)]
          omega
        | succ m ih =>
          intro hm r r0 r1
          by_cases q : r < g_bf O 0 m
          · exact ih (by omega) r r0 q
          · have e2 : g_bf O 0 ((m + 1 : Nat) : Int) = O 0 m := by rw [show ((m + 1 : Nat) : Int) = (m : Int) + 1 by omega]; exact g_bf_s (by omega)
            exact (kp m (by omega) (by omega)).1.1 r (by omega) (by omega)
      have rn := rows n.toNat (by omega)
      rw [show ((n.toNat : Nat) : Int) = n by omega] at rn
      have eo : g_bf O 0 (n - 1 + 1) = O 0 (n - 1) := g_bf_s (by omega)
      rw [show n - 1 + 1 = n by omega] at eo
      rw [eo] at rn
      exact (c_was_page hA h (k := n - 1) ⟨by omega, by omega⟩ rn).2.2
  · rw [z]; exact h0
