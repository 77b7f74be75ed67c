/-! ===== the law lays the pages of the best way ===== -/
theorem k_pa_n {T : pT} {C : Int → Int} : ∀ (t : Nat) (k a f n x : Int), k_pa T C t k a f n x → k ≤ C 0 ∧ (a < T 8 0 → k + 1 ≤ C 0)
  | 0, k, a, f, n, x, h => ⟨by rw [h.2]; exact Int.le_refl _, fun z => by have := h.1; omega⟩
  | t + 1, k, a, f, n, x, h => by
    rcases h with h | ⟨h, b, m, hb, hc, hp⟩
    · exact ⟨by omega, fun z => by omega⟩
    · have := (k_pa_n t _ _ _ _ _ hp).1
      exact ⟨by omega, fun _ => by omega⟩
theorem k_bp {P : pT} {k : Int} : k % 2 = 0 → (g_x P k = 15 ∧ k = 0) ∨ (¬ k = 0 ∧ g_x P k = P 4 (k - 1)) := fun h => by
  unfold g_x
  by_cases z : k = 0
  · rw [if_pos z]; exact Or.inl ⟨rfl, z⟩
  · rw [if_neg z, if_pos h]; exact Or.inr ⟨z, rfl⟩
theorem k_bo {P : pT} {k : Int} : ¬ k % 2 = 0 → g_x P k = 0 := fun h => by
  unfold g_x
  rw [if_neg (fun z => h (by rw [z]; rfl)), if_neg h]
/-- what the law keeps of the page before -/
def k_before (P : pT) (k : Int) : Int := if k ≤ 0 then 0 else P 4 (k - 1)
def k_odd (k : Int) : Int := if k % 2 = 0 then 1 else 0
theorem k_bx {T P : pT} {k bf : Int} (hso : g_some T P k) (hbf : bf = if k_odd k = 0 then 0 else k_before P k) : (bf = g_x P k ∧ 1 ≤ g_x P k ∧ g_x P k ≤ 14) ∨ (bf = 0 ∧ (g_x P k = 0 ∨ g_x P k = 15)) := by
  unfold k_odd k_before at hbf
  have k0 := hso.1
  by_cases e : k % 2 = 0
  · rw [if_pos e, if_neg (by decide)] at hbf
    rcases k_bp (P := P) e with ⟨a, b⟩ | ⟨a, b⟩
    · rw [if_pos (by omega)] at hbf
      exact Or.inr ⟨hbf, Or.inr a⟩
    · rw [if_neg (by omega)] at hbf
      have := hso.2.2.1 (k - 1) (by omega) (by omega)
      exact Or.inl ⟨by rw [b]; exact hbf, by omega, by omega⟩
  · rw [if_neg e, if_pos rfl] at hbf
    exact Or.inr ⟨hbf, Or.inl (k_bo e)⟩
theorem k_odd_s {k : Int} : k_odd (k + 1) = if k_odd k = 0 then 1 else 0 := by
  unfold k_odd
  by_cases e : k % 2 = 0
  · rw [if_pos e, if_neg (show ¬ (k + 1) % 2 = 0 by omega), if_neg (by decide)]
  · rw [if_neg e, if_pos (show (k + 1) % 2 = 0 by omega), if_pos rfl]
section
variable {d : Nat} {h : qH} {f : Int → qH → qM → Prop} {A : pA} {cnt c D sn p0 nc : Int}
/-- the pages with rows, one by one -/
theorem k_758 (hS : qSe h) {K0 ck : Int} {P0 : pT} {C : Int → Int} (hp0 : 0 ≤ p0 ∧ p0 ≤ 42) (hck : 0 ≤ ck) : ∀ (t : Nat) (j : Int) (P : pT) (M : qM), 0 ≤ j → k_env A cnt c D sn M → k_P P (ck + j) p0 c M → g_some (p_T A cnt D) P (ck + j) → M 76 0 (16 + c) = p_sum (g_kc (p_T A cnt D) P) (ck + j) → k_pgs (p_T A cnt D) P (ck + j) → (∀ s, M 97 nc s = C s) → p_SR A cnt - g_bf P 0 (ck + j) ≤ t → k_pa (p_T A cnt D) C t j (g_bf P 0 (ck + j)) (g_bf P 1 (ck + j)) (g_bf P 2 (ck + j)) (g_x P (ck + j)) → p_sum (g_kc (p_T A cnt D) P) (ck + j) + g_V (p_T A cnt D) g_I (g_bf P 0 (ck + j)) (g_bf P 1 (ck + j)) (g_bf P 2 (ck + j)) (g_x P (ck + j)) = K0 → (∀ i q, q < ck → P i q = P0 i q) → (∀ q, ck ≤ q → q < ck + j → g_pB (p_T A cnt D) P q ∧ g_bf P 0 q < p_SR A cnt) →
    (∀ M' P' cw, k_fy c p0 M M' → k_env A cnt c D sn M' → k_P P' cw p0 c M' → g_some (p_T A cnt D) P' cw → M' 76 0 (16 + c) = p_sum (g_kc (p_T A cnt D) P') cw → k_pgs (p_T A cnt D) P' cw → g_bf P' 0 cw = p_SR A cnt → p_sum (g_kc (p_T A cnt D) P') cw + 5 * g_bN (p_T A cnt D) (g_bf P' 1 cw) (g_bf P' 2 cw) = K0 → (∀ i q, q < ck → P' i q = P0 i q) → (ck + j ≤ cw ∧ ∀ q, ck ≤ q → q < cw → g_pB (p_T A cnt D) P' q ∧ g_bf P' 0 q < p_SR A cnt) → ∀ u1 u2 u4 u9 u10 u11 u12 u13 u14 u16 u19 u20 u21 u22 u23 u24 u25 : qV, b205_896 d h f u1 u2 u4 c u9 u10 u11 u12 u13 u14 (p_SR A cnt) u16 (g_bf P' 1 cw) (g_bf P' 2 cw) u19 u20 u21 u22 u23 u24 u25 M') → ∀ u4 u9 u10 u11 u12 u21 u23 u24 u25 : qV, b205_758 d h f u4 c u9 u10 u11 u12 sn nc (p_SR A cnt) (g_bf P 0 (ck + j)) (g_bf P 1 (ck + j)) (g_bf P 2 (ck + j)) (k_before P (ck + j)) (k_odd (ck + j)) u21 (j + 1) u23 u24 u25 M := by
  intro t
  induction t with
  | zero =>
    intro j P M j0 env hP hso v16 pgs hC ht pa hK0 hold hB H u4 u9 u10 u11 u12 u21 u23 u24 u25
    obtain ⟨hch, hss, hfl, hcn⟩ := id env
    have T8 := p_T_8 (A := A) (cnt := cnt) (D := D)
    obtain ⟨pa1, pa2⟩ := pa
    rw [T8.1] at pa1
    have eV := g_V_end (T := p_T A cnt D) (I := g_I) (a := g_bf P 0 (ck + j)) (f := g_bf P 1 (ck + j)) (n := g_bf P 2 (ck + j)) (x := g_x P (ck + j)) (by rw [T8.1]; omega)
    refine w205_758 hS ⟨fun z => absurd z (by rw [hC]; omega), fun _ => H M P (ck + j) k_fy_r env hP hso v16 pgs pa1 (by rw [← eV]; exact hK0) hold ⟨Int.le_refl _, hB⟩ _ _ _ _ _ _ _ _ _ _ _ _ _ _ _ _ _⟩
  | succ t ih =>
    intro j P M j0 env hP hso v16 pgs hC ht pa hK0 hold hB H u4 u9 u10 u11 u12 u21 u23 u24 u25
    obtain ⟨hch, hss, hfl, hcn⟩ := id env
    obtain ⟨hA, hD, ⟨m2, m19⟩, hr, hi, hw⟩ := id hch
    have hT := p_T_tab hA.2.2.2.1 hD
    have c3 := hA.1
    have s16 := hA.2.2.2.2
    have T8 := p_T_8 (A := A) (cnt := cnt) (D := D)
    have paN := k_pa_n _ _ _ _ _ _ pa
    rcases pa with ⟨pa1, pa2⟩ | ⟨pa1, b, m, hb, hc, pa2⟩
    · rw [T8.1] at pa1
      have eV := g_V_end (T := p_T A cnt D) (I := g_I) (a := g_bf P 0 (ck + j)) (f := g_bf P 1 (ck + j)) (n := g_bf P 2 (ck + j)) (x := g_x P (ck + j)) (by rw [T8.1]; omega)
      refine w205_758 hS ⟨fun z => absurd z (by rw [hC]; omega), fun _ => H M P (ck + j) k_fy_r env hP hso v16 pgs pa1 (by rw [← eV]; exact hK0) hold ⟨Int.le_refl _, hB⟩ _ _ _ _ _ _ _ _ _ _ _ _ _ _ _ _ _⟩
    have can := hb.1
    have k0 : 0 ≤ ck + j := by omega
    have at1 : g_at (p_T A cnt D) (g_bf P 0 (ck + j)) (g_bf P 1 (ck + j)) (g_bf P 2 (ck + j)) := hso.2.1
    have c1 := can.1
    have c2 := can.2.1
    have a1 := at1.1
    rw [T8.1] at pa1 c1 a1
    have paN2 := paN.2 (by rw [T8.1]; exact pa1)
    have nx := g_next hT at1 can.1 ⟨c2.1, c2.2.2⟩ can.2.2
    have nums := g_nums hT at1 can.1 ⟨c2.1, c2.2.2⟩
    have nok := nums.2.2.2.2.2 can.2.2
    have ss := g_some_s hT hso can
    have hx := g_some_x hso
    have F4 := hT.2.2.1
    have N12 := hT.2.2.2.1
    have tb := g_tab_at hT nx.1
    have nx1 := nx.2.1
    have nx2 := nx.2.2
    have ta := g_tab_at hT at1.1
    have at2 := at1.2.1
    have at3 := at1.2.2
    have k16 := hso.1
    have eC : M 97 nc (j + 1) = b - g_bf P 0 (ck + j) + 32 * m := by rw [hC]; exact hc
    have e31 : qAnd (M 97 nc (j + 1)) 31 = b - g_bf P 0 (ck + j) := by rw [k_a31, eC]; omega
    have e32 : M 97 nc (j + 1) / 32 = m := by rw [eC]; omega
    refine w205_758 hS ⟨fun _ => ⟨⟨by omega, by omega⟩, ⟨by omega, by omega⟩, fun bf hbf => ?_⟩, fun z => absurd (by rw [hC]; exact paN2) z⟩
    rw [e31, e32]
    refine L201n (N := b - g_bf P 0 (ck + j)) rfl (A := A) (cnt := cnt) (D := D) (b := b) (x := g_x P (ck + j)) hS hch hss hfl at1 ⟨by omega, by omega⟩ ⟨c2.1, c2.2.1, c2.2.2⟩ (k_bx hso hbf) (fun hno => absurd can hno) (fun _ M1 O1 v29 v30 v31 v32 => ⟨fun z => absurd z (by omega), fun _ => ?_⟩)
    have y1 : k_fy c p0 M M1 := k_fy_29 O1
    have hP1 : k_P P (ck + j) p0 c M1 := k_P_fr hP (fun a s q => O1 a 0 s (by omega))
    refine k_lay hS (k_ch_fy hch y1) hP1 hso hp0 (by omega) can v29 v30 v31 v32 (by rw [O1 _ _ _ (by omega)]; exact v16) (fun M2 y2 hP2 w16 w29 w31 => ?_)
    rw [w29, w31, v29, v31]
    have hcl : ∀ i q, q < ck + j → g_add (p_T A cnt D) P (ck + j) b m i q = P i q := fun i q hq => g_ap_o (by omega)
    have pg := g_add_pg (T := p_T A cnt D) (P := P) (c := ck + j) (b := b) (m := m)
    generalize hQ : g_add (p_T A cnt D) P (ck + j) b m = Q at *
    obtain ⟨f0, f1, f2, fx⟩ := g_bf_c hcl (k := ck + j) (Int.le_refl _)
    have pg' := pg
    unfold g_pg at pg'
    rw [f0, f1, f2] at pg'
    have n0 : g_bf Q 0 (ck + j + 1) = b := (g_bf_s k0).trans pg'.1
    have n1 : g_bf Q 1 (ck + j + 1) = g_bf P 1 (ck + j) + m := (g_bf_s k0).trans pg'.2.1
    have n2 : g_bf Q 2 (ck + j + 1) = g_bf P 2 (ck + j) + g_lines (p_T A cnt D) (g_bf P 0 (ck + j)) b (g_bf P 1 (ck + j)) m (g_bf P 2 (ck + j)) := (g_bf_s k0).trans pg'.2.2.1
    have nX : g_x Q (ck + j + 1) = g_ahead (p_T A cnt D) (g_bf P 0 (ck + j)) b (g_bf P 1 (ck + j)) m (g_bf P 2 (ck + j)) (g_x P (ck + j)) := by
      rw [g_x_s k0 (fun q q0 q1 => (ss.1.2.2.1 q q0 (by omega)).1), fx, pg'.2.2.2.2]
      rfl
    have nB : k_before Q (ck + j + 1) = g_fill (p_T A cnt D) (g_bf P 0 (ck + j)) b (g_bf P 1 (ck + j)) m (g_bf P 2 (ck + j)) := by
      unfold k_before
      rw [if_neg (by omega), show ck + j + 1 - 1 = ck + j by omega]
      exact pg'.2.2.2.2
    refine ⟨⟨by omega, by omega⟩, ⟨by omega, by omega⟩, ⟨by omega, by omega⟩, fun od hod => ⟨⟨by omega, by omega⟩, ?_⟩⟩
    have eod : od = k_odd (ck + j + 1) := by rw [hod, k_odd_s]
    have yy : k_fy c p0 M M2 := k_fy_t y1 y2 (Int.le_refl _)
    have hval := hb.2.1
    unfold g_val at hval
    rw [show g_bf P 0 (ck + j) + (b - g_bf P 0 (ck + j)) = g_bf Q 0 (ck + j + 1) by rw [n0]; omega, ← n1, ← n2, ← nB, eod]
    have jj : ck + (j + 1) = ck + j + 1 := by omega
    have IH := ih (j + 1) Q M2 (by omega) (k_env_fy env yy) (by rw [jj]; exact hP2) (by rw [jj]; exact ss.1) (by rw [jj]; exact w16) (by
      rw [jj]
      intro q q0 q1
      by_cases eq : q = ck + j
      · subst eq
        rw [f0, f1, f2, pg'.1, pg'.2.1, pg'.2.2.1]
        exact ⟨at1, m, can, rfl, rfl⟩
      · obtain ⟨z1, m', z2, z3, z4⟩ := pgs q q0 (by omega)
        obtain ⟨x0, x1, x2, _⟩ := g_bf_c hcl (k := q) (by omega)
        rw [x0, x1, x2, hcl 0 q (by omega), hcl 1 q (by omega), hcl 2 q (by omega)]
        exact ⟨z1, m', z2, z3, z4⟩) (fun s => by rw [yy.1 _ _ _ (by omega)]; exact hC s) (by rw [jj, n0]; omega) (by rw [jj, n0, n1, n2, nX]; exact pa2) (by rw [jj, ss.2.1, n0, n1, n2, nX]; omega) (fun i q hq => by rw [hcl i q (by omega)]; exact hold i q hq) (by
      rw [jj]
      intro q q0 q1
      by_cases eq : q = ck + j
      · subst eq
        rw [f0]
        refine ⟨⟨m, ?_, ?_⟩, by omega⟩
        · rw [f0, f1, f2, fx, pg'.1]; exact hb
        · rw [f0, f1, f2, pg'.1]; exact pg'.2
      · have := hB q q0 (by omega)
        rw [(g_bf_c hcl (k := q) (by omega)).1]
        exact ⟨g_pB_c hcl (by omega) this.1, this.2⟩) (fun M3 P3 cw y3 e3 hP3 hso3 v3 pgs3 l1 l2 l3 l4 => H M3 P3 cw (k_fy_t yy y3 (Int.le_refl _)) e3 hP3 hso3 v3 pgs3 l1 l2 l3 ⟨by omega, l4.2⟩) u4 u9 u10 u11 u12 u21
    rw [jj] at IH
    exact IH _ _ _
end
