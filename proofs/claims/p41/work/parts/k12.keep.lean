/-! ===== the law keeps pages; the rest of a chapter ===== -/
theorem k_env_cg {A : pA} {cnt c D sn : Int} {M M' : qM} (h : k_env A cnt c D sn M) (f : ∀ (a : Nat) (o s : Int), (a = 64 ∨ a = 65 ∨ a = 71 ∨ a = 72 ∨ a = 96 ∨ (a = 76 ∧ (s = 2 ∨ (19 ≤ s ∧ s ≤ 27)))) → M' a o s = M a o s) : k_env A cnt c D sn M' := by
  obtain ⟨h1, h2, h3, h4⟩ := h
  have := h1.1.1
  exact ⟨k_ch_cg h1 (fun s => f _ _ _ (by omega)) (fun s => f _ _ _ (by omega)) (fun s => f _ _ _ (by omega)) (f _ _ _ (by omega)) (f _ _ _ (by omega)), fun r a b => by rw [f _ _ _ (by omega)]; exact h2 r a b, fun i w a b e g k3 => by rw [f _ _ _ (by omega)]; exact h3 i w a b e g k3, by rw [f _ _ _ (by omega)]; exact h4.1, by rw [f _ _ _ (by omega)]; exact h4.2⟩
theorem k_pgs_some {T P : pT} {ck : Int} (h : k_pgs T P ck) (hT : g_tab T) (hb : g_bf P 0 ck = T 8 0) (h0 : 0 < ck) : P 0 (ck - 1) = T 8 0 := by
  have e : g_bf P 0 ck = P 0 (ck - 1) := by
    have := k_bf_s (P := P) (j := 0) (i := 0) (k := ck - 1) rfl (by omega)
    rw [show ck - 1 + 1 = ck by omega] at this
    exact this
  rw [← e]; exact hb
section
variable {d : Nat} {h : qH} {f : Int → qH → qM → Prop} {A : pA} {cnt c D sn p0 nc : Int}
/-- behind what is kept: the best way, and the pages without rows -/
theorem k_725 {u : Nat} {ck : Int} {P : pT} {M : qM} (hu : k_h u h) (hSW : p_SW A cnt ≤ 16) (hp0 : 0 ≤ p0 ∧ p0 ≤ 42) (env : k_env A cnt c D sn M) (hP : k_P P ck p0 c M) (hso : g_some (p_T A cnt D) P ck) (v16 : M 76 0 (16 + c) = p_sum (g_kc (p_T A cnt D) P) ck) (pgs : k_pgs (p_T A cnt D) P ck) (lt : g_bf P 0 ck < p_SR A cnt)
    (H0 : ¬ g_V (p_T A cnt D) g_I (g_bf P 0 ck) (g_bf P 1 ck) (g_bf P 2 ck) (g_x P ck) < g_I → ∀ h' M', k_h (u + 7) h' → k_fq c p0 nc M M' → (0 ≤ M' 76 0 6 ∧ M' 76 0 6 ≤ 58) → f 0 h' M')
    (H1 : g_V (p_T A cnt D) g_I (g_bf P 0 ck) (g_bf P 1 ck) (g_bf P 2 ck) (g_x P ck) < g_I → ∀ h' M' P' ct, k_h (u + 7) h' → k_fq c p0 nc M M' → k_P P' ct p0 c M' → g_rest (p_T A cnt D) P ck P' ct → M' 76 0 (16 + c) = p_sum (g_kc (p_T A cnt D) P) ck + g_V (p_T A cnt D) g_I (g_bf P 0 ck) (g_bf P 1 ck) (g_bf P 2 ck) (g_x P ck) → M' 76 0 (13 + c) = p0 + ct → ct ≤ 19 ∧ ct ≤ p_SR A cnt + 4 → f 1 h' M') (u4 u9 u10 u11 u12 u21 u22 u23 u24 u25 : qV) : b205_725 d h f u4 c u9 u10 u11 u12 sn nc (p_SR A cnt) (g_bf P 0 ck) (g_bf P 1 ck) (g_bf P 2 ck) (k_before P ck) (k_odd ck) u21 u22 u23 u24 u25 M := by
  obtain ⟨hch, hss, hfl, hcn⟩ := id env
  obtain ⟨hA, hD, ⟨m2, m19⟩, hr, hi, hw⟩ := id hch
  have hT := p_T_tab hA.2.2.2.1 hD
  have c3 := hA.1
  have s16 := hA.2.2.2.2
  have T8 := p_T_8 (A := A) (cnt := cnt) (D := D)
  have at1 : g_at (p_T A cnt D) (g_bf P 0 ck) (g_bf P 1 ck) (g_bf P 2 ck) := hso.2.1
  have hx := g_some_x hso
  have k0 := hso.1
  have a1 := at1.1
  rw [T8.1] at a1
  have odd01 : k_odd ck = 0 ∨ k_odd ck = 1 := by unfold k_odd; split <;> simp
  have ev : ck % 2 = 0 → (g_x P ck = 15 ∧ k_before P ck = 0) ∨ (g_x P ck = k_before P ck ∧ 1 ≤ g_x P ck ∧ g_x P ck ≤ 14) := fun e => by
    unfold k_before
    rcases k_bp (P := P) e with ⟨a, b⟩ | ⟨a, b⟩
    · rw [if_pos (by omega)]; exact Or.inl ⟨a, rfl⟩
    · rw [if_neg (by omega)]
      have := hso.2.2.1 (ck - 1) (by omega) (by omega)
      exact Or.inr ⟨b, by omega, by omega⟩
  have od0 : k_od (k_odd ck) 0 = k_odd ck := by
    unfold k_od
    rcases odd01 with e | e <;> rw [e] <;> decide
  have par : g_x P ck = 0 ↔ k_od (k_odd ck) 0 = 0 := by
    rw [od0]
    unfold k_odd
    by_cases e : ck % 2 = 0
    · rw [if_pos e]
      have := ev e
      omega
    · rw [if_neg e]
      exact ⟨fun _ => rfl, fun _ => k_bo e⟩
  refine w205_725 hu.1 (L204 (u := u) (x := g_x P ck) hu odd01 ⟨a1.1, lt⟩ at1 hx par (fun x0 => ?_) env (fun h' M1 hu' O1 pa => ?_))
  · by_cases e : ck % 2 = 0
    · rcases ev e with ⟨a, b⟩ | ⟨a, b, c'⟩
      · rw [if_pos a]; exact b
      · rw [if_neg (by omega)]; exact a.symm
    · exact absurd (k_bo e) x0
  · have V0 := g_V_0 hT (I := g_I) (by decide) _ (g_bf P 0 ck) (g_bf P 1 ck) (g_bf P 2 ck) (g_x P ck) (Int.self_le_toNat _) at1 hx
    have q1 : k_fq c p0 nc M M1 := ⟨fun a o s z1 z2 z3 => O1 a o s z1 (fun z => z3 ⟨z.2.1, Or.inl ⟨z.1, by omega⟩⟩) z2, fun s _ _ => by rw [O1 _ _ _ (by omega) (by omega) (by omega)]; exact ⟨rfl, fun z => z⟩⟩
    by_cases hV : g_V (p_T A cnt D) g_I (g_bf P 0 ck) (g_bf P 1 ck) (g_bf P 2 ck) (g_x P ck) < g_I
    · rw [if_pos hV]
      refine ⟨fun z => absurd z (by omega), fun _ => ?_⟩
      have sk := hso.2.2.2.2
      have env1 : k_env A cnt c D sn M1 := k_env_cg env (fun a o s q => O1 a o s (by omega) (by omega) (by omega))
      have hP1 : k_P P ck p0 c M1 := k_P_fr hP (fun a s q => O1 a 0 s (by omega) (by omega) (by omega))
      have pa1 := pa hV
      have k758 := k_758 (d := d) (h := h') (f := f) (A := A) (cnt := cnt) (c := c) (D := D) (sn := sn) (p0 := p0) (nc := nc) (K0 := p_sum (g_kc (p_T A cnt D) P) ck + g_V (p_T A cnt D) g_I (g_bf P 0 ck) (g_bf P 1 ck) (g_bf P 2 ck) (g_x P ck)) (ck := ck) (P0 := P) (C := M1 97 nc) hu'.1 hp0 k0.1 (p_SR A cnt - g_bf P 0 ck).toNat 0 P M1 (Int.le_refl _) env1 (by rw [Int.add_zero]; exact hP1) (by rw [Int.add_zero]; exact hso) (by rw [Int.add_zero, O1 _ _ _ (by omega) (by omega) (by omega)]; exact v16) (by rw [Int.add_zero]; exact pgs) (fun _ => rfl) (by rw [Int.add_zero]; omega) (by rw [Int.add_zero]; exact pa1) (by rw [Int.add_zero]) (fun _ _ _ => rfl) (fun q a b => by omega)
      simp only [Int.add_zero, Int.zero_add] at k758
      refine k758 (fun M2 P2 cw y2 env2 hP2 hso2 w16 pgs2 e0 eK hold hB u1 u2 u4 u9 u10 u11 u12 u13 u14 u16 u19 u20 u21 u22 u23 u24 u25 => ?_) _ _ _ _ _ _ _ _ _
      have at2 : g_at (p_T A cnt D) (g_bf P2 0 cw) (g_bf P2 1 cw) (g_bf P2 2 cw) := hso2.2.1
      rw [e0, ← T8.1] at at2
      have eR := hT.2.2.2.2.2.1
      have b1 := at2.2.1
      have b2 := at2.2.2
      rw [eR.1, T8.2.2.1] at b1
      rw [eR.2, T8.2.2.2] at b2
      have t3 := hT.2.2.2.2.2.2.2.1 ((p_T A cnt D) 8 0) (by rw [T8.1]; omega) (Int.le_refl _)
      have hck : ck < cw := by
        by_cases z : cw = ck
        · subst z
          have := (g_bf_c (c := cw) (k := cw) (fun j q hq => hold j q hq) (Int.le_refl _)).1
          omega
        · omega
      have eL := k_pgs_some pgs2 hT (by rw [e0, T8.1]) (by omega)
      have thin : (p_T A cnt D) 8 0 = 16 → ∀ r, 0 ≤ r → r < 16 → (p_T A cnt D) 2 (r + 1) ≤ (p_T A cnt D) 2 r + 4 ∧ ((p_T A cnt D) 2 r < (p_T A cnt D) 2 (r + 1) → (p_T A cnt D) 3 (r + 1) = (p_T A cnt D) 2 r + 1) := fun e r r0 r1 => p_thin hA.2.2.2.1 (by rw [T8.1] at e; omega) ⟨r0, by rw [T8.1] at e; omega⟩
      have ct := k_ct hT (by rw [T8.1]; exact s16) thin (by omega) pgs2 eL (hB.2 (cw - 1) (by omega) (by omega)).1
      have x1 : g_bf P2 1 cw = P2 1 (cw - 1) := by
        have := k_bf_s (P := P2) (j := 1) (i := 1) (k := cw - 1) rfl (by omega)
        rw [show cw - 1 + 1 = cw by omega] at this
        exact this
      have x2 : g_bf P2 2 cw = P2 2 (cw - 1) := by
        have := k_bf_s (P := P2) (j := 2) (i := 2) (k := cw - 1) rfl (by omega)
        rw [show cw - 1 + 1 = cw by omega] at this
        exact this
      rw [← x1, ← x2, T8.1] at ct
      have bN := (g_bN_s hT (f := g_bf P2 1 cw) (n := g_bf P2 2 cw) (by rw [T8.2.2.1]; exact b1) (by rw [T8.2.2.2]; exact ⟨by omega, b2.2⟩)).1
      have sk2 := hso2.2.2.2.2
      have inc := k_pgs_a pgs2
      refine k_bare (nc := nc) hu'.1 (K0 := p_sum (g_kc (p_T A cnt D) P) ck + g_V (p_T A cnt D) g_I (g_bf P 0 ck) (g_bf P 1 ck) (g_bf P 2 ck) (g_x P ck)) (g_bN (p_T A cnt D) (g_bf P2 1 cw) (g_bf P2 2 cw)).toNat cw P2 M2 (Int.self_le_toNat _) env2 hP2 hp0 (by omega) (fun q q0 q1 => by have := (inc q q0 (by omega)).2 q1; rw [T8.1] at this; exact this.2) e0 b1 ⟨by omega, b2.2⟩ ct.1 (by rw [w16]; exact eK) ⟨by rw [w16]; omega, by rw [← eK]; omega⟩ (fun M3 P3 ct3 q3 hP3 hold3 hct3 pz3 bf3 l1 l2 l3 l4 => ?_) _ _ _ _ _ _ _ _ _ _ _ _ _ _ _ _ _
      refine H1 hV h' M3 P3 ct3 hu' (k_fq_q (k_fq_y q1 y2 (Int.le_refl _)) q3 (Int.le_refl _)) hP3 ⟨cw, ⟨hck, hct3.1⟩, ⟨by rw [T8.1]; exact ct.2.1, by omega⟩, fun j q hq => by rw [hold3 j q (by omega), hold j q hq], fun q q0 q1 => ?_, pz3, fun q q0 q1 => by rw [T8.1]; exact bf3 q q0 q1, by rw [T8.2.2.1]; exact l1, by rw [T8.2.2.2]; exact l2⟩ l3 l4 ⟨by omega, by omega⟩
      have := hB.2 q q0 q1
      rw [(g_bf_c hold3 (k := q) (by omega)).1, T8.1]
      exact ⟨g_pB_c hold3 q1 this.1, this.2⟩
    · rw [if_neg hV]
      exact ⟨fun _ => H0 hV h' M1 hu' q1 (by rw [O1 _ _ _ (by omega) (by omega) (by omega), hP.1]; omega), fun z => absurd (by decide) z⟩
end
