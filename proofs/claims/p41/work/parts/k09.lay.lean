/-! ===== the law lays pages ===== -/
/-- a chapter's pages behind page p0 -/
def k_P (P : pT) (cnt p0 c : Int) (M : qM) : Prop := M 76 0 6 = p0 + cnt ∧ ∀ k, 0 ≤ k → k < cnt → (M 74 0 (p0 + 1 + k) = k_pk c (g_bf P 0 k) (P 0 k - g_bf P 0 k) (g_bf P 1 k) (P 1 k - g_bf P 1 k) (g_bf P 2 k) (P 2 k - g_bf P 2 k) (P 3 k) ∧ M 75 0 (p0 + 1 + k) = P 4 k) ∧ ∀ r, g_bf P 0 k ≤ r → r < P 0 k → M 71 0 (20 * c + r) / 16384 = p0 + 1 + k
def k_fy (c p0 : Int) (M M' : qM) : Prop := (∀ (k : Nat) (o s : Int), ¬ (o = 0 ∧ ((k = 76 ∧ (s = 6 ∨ s = 16 + c ∨ (29 ≤ s ∧ s ≤ 32))) ∨ ((k = 74 ∨ k = 75) ∧ p0 < s) ∨ (k = 71 ∧ 20 * c ≤ s ∧ s < 20 * c + 20))) → M' k o s = M k o s) ∧ ∀ s, 20 * c ≤ s → s < 20 * c + 20 → M' 71 0 s % 16384 = M 71 0 s % 16384 ∧ (0 ≤ M 71 0 s ∧ M 71 0 s ≤ 2147483647 → 0 ≤ M' 71 0 s ∧ M' 71 0 s ≤ 2147483647)
theorem k_fy_r {c p0 : Int} {M : qM} : k_fy c p0 M M := ⟨fun _ _ _ _ => rfl, fun _ _ _ => ⟨rfl, fun h => h⟩⟩
theorem k_fy_t {c p0 p1 : Int} {M M1 M2 : qM} (h : k_fy c p0 M M1) (h' : k_fy c p1 M1 M2) (hp : p0 ≤ p1) : k_fy c p0 M M2 := ⟨fun k o s q => by rw [h'.1 k o s (fun z => q ⟨z.1, by omega⟩), h.1 k o s q], fun s a b => ⟨by rw [(h'.2 s a b).1, (h.2 s a b).1], fun z => (h'.2 s a b).2 ((h.2 s a b).2 z)⟩⟩
theorem k_ch_fy {A : pA} {cnt c D p0 : Int} {M M' : qM} (h : k_ch A cnt c D M) (f : k_fy c p0 M M') : k_ch A cnt c D M' := by
  obtain ⟨hA, hD, ⟨m2, m19⟩, hr, hi, hw⟩ := h
  have c3 := hA.1
  have s16 := hA.2.2.2.2
  refine ⟨hA, hD, ⟨by rw [f.1 _ _ _ (by omega)]; exact m2, by rw [f.1 _ _ _ (by omega)]; exact m19⟩, fun q a b => ?_, fun i a b => by rw [f.1 65 _ _ (by omega)]; exact hi i a b, fun i w a b e g => ?_⟩
  · have g := f.2 (20 * c + q) (by omega) (by omega)
    have r := hr q a b
    exact ⟨g.2 r.1, by rw [g.1]; exact r.2⟩
  · unfold k_cd
    rw [f.1 64 _ _ (by omega)]
    exact hw i w a b e g
theorem k_env_fy {A : pA} {cnt c D sn p0 : Int} {M M' : qM} (h : k_env A cnt c D sn M) (f : k_fy c p0 M M') : k_env A cnt c D sn M' := by
  obtain ⟨h1, h2, h3, h4⟩ := h
  have := h1.1.1
  exact ⟨k_ch_fy h1 f, fun r a b => by rw [f.1 _ _ _ (by omega)]; exact h2 r a b, fun i w a b e g k3 => by rw [f.1 _ _ _ (by omega)]; exact h3 i w a b e g k3, by rw [f.1 _ _ _ (by omega)]; exact h4.1, by rw [f.1 _ _ _ (by omega)]; exact h4.2⟩
/-- what the trying of a page changes -/
theorem k_fy_29 {c p0 : Int} {M M' : qM} (h : ∀ (k : Nat) (o s : Int), ¬ (k = 76 ∧ o = 0 ∧ 29 ≤ s ∧ s ≤ 32) → M' k o s = M k o s) : k_fy c p0 M M' := ⟨fun k o s q => h k o s (fun z => q ⟨z.2.1, Or.inl ⟨z.1, Or.inr (Or.inr z.2.2)⟩⟩), fun s a b => by rw [h 71 0 s (by omega)]; exact ⟨rfl, fun z => z⟩⟩
theorem k_P_fr {P : pT} {cnt p0 c : Int} {M M' : qM} (h : k_P P cnt p0 c M) (f : ∀ (k : Nat) (s : Int), (k = 71 ∨ k = 74 ∨ k = 75 ∨ (k = 76 ∧ s = 6)) → M' k 0 s = M k 0 s) : k_P P cnt p0 c M' := ⟨by rw [f _ _ (by omega)]; exact h.1, fun k a b => ⟨⟨by rw [f _ _ (by omega)]; exact (h.2 k a b).1.1, by rw [f _ _ (by omega)]; exact (h.2 k a b).1.2⟩, fun r r0 r1 => by rw [f _ _ (by omega)]; exact (h.2 k a b).2 r r0 r1⟩⟩
section
variable {d : Nat} {h : qH} {M : qM} {A : pA} {cnt c D sn p0 k : Int} {P : pT}
theorem k_lay {F : qM → Prop} {b m : Int} (hS : qSe h) (hK : k_ch A cnt c D M) (hP : k_P P k p0 c M) (hso : g_some (p_T A cnt D) P k) (hp0 : 0 ≤ p0 ∧ p0 ≤ 42) (hk : k ≤ 18) (can : g_can (p_T A cnt D) (g_bf P 0 k) (g_bf P 1 k) (g_bf P 2 k) b m) (v29 : M 76 0 29 = g_lines (p_T A cnt D) (g_bf P 0 k) b (g_bf P 1 k) m (g_bf P 2 k)) (v30 : M 76 0 30 = g_grown (p_T A cnt D) (g_bf P 0 k) b (g_bf P 1 k) m (g_bf P 2 k)) (v31 : M 76 0 31 = g_fill (p_T A cnt D) (g_bf P 0 k) b (g_bf P 1 k) m (g_bf P 2 k)) (v32 : M 76 0 32 = g_cost (p_T A cnt D) (g_bf P 0 k) b (g_bf P 1 k) m (g_bf P 2 k) + g_far (p_T A cnt D) (g_bf P 0 k) b (g_bf P 1 k) m (g_bf P 2 k) (g_x P k)) (v16 : M 76 0 (16 + c) = p_sum (g_kc (p_T A cnt D) P) k)
    (H : ∀ M', k_fy c p0 M M' → k_P (g_add (p_T A cnt D) P k b m) (k + 1) p0 c M' → M' 76 0 (16 + c) = p_sum (g_kc (p_T A cnt D) (g_add (p_T A cnt D) P k b m)) (k + 1) → M' 76 0 29 = M 76 0 29 → M' 76 0 31 = M 76 0 31 → F M') : e207 (d + 2) h c (g_bf P 0 k) (b - g_bf P 0 k) (g_bf P 1 k) m (g_bf P 2 k) M F := by
  obtain ⟨hA, hD, ⟨m2, m19⟩, hr, hi, hw⟩ := id hK
  have hT := p_T_tab hA.2.2.2.1 hD
  have c3 := hA.1
  have s16 := hA.2.2.2.2
  have T8 := p_T_8 (A := A) (cnt := cnt) (D := D)
  have at1 : g_at (p_T A cnt D) (g_bf P 0 k) (g_bf P 1 k) (g_bf P 2 k) := hso.2.1
  have nums := g_nums hT at1 can.1 ⟨can.2.1.1, can.2.1.2.2⟩
  have nok := nums.2.2.2.2.2 can.2.2
  have nx := g_next hT at1 can.1 ⟨can.2.1.1, can.2.1.2.2⟩ can.2.2
  have hx := g_some_x hso
  have fb := g_far_bd (T := p_T A cnt D) (a := g_bf P 0 k) (b := b) (f := g_bf P 1 k) (m := m) (n := g_bf P 2 k) nok.2.2.2.1 hx
  have ss := g_some_s hT hso can
  have k0 := hso.1
  have sk := hso.2.2.2.2
  have c1 := can.1
  have c2 := can.2.1
  have ta := g_tab_at hT at1.1
  have tb := g_tab_at hT nx.1
  have F4 := hT.2.2.1
  have N12 := hT.2.2.2.1
  have a1 := at1.1
  have a2 := at1.2.1
  have a3 := at1.2.2
  have b2 := nx.2.2
  have high : b - g_bf P 0 k ≤ 14 := by
    have hh := can.2.2.1
    have q0 := nums.2.1
    have h4 := hT.2.2.2.2.2.2.2.2.1 (g_bf P 1 k) (g_bf P 1 k + m) (by omega) (by omega) (by omega)
    unfold g_high at hh
    omega
  rw [T8.1] at a1 c1
  rw [T8.2.2.1] at F4 ta tb
  rw [T8.2.2.2] at N12 ta tb
  refine L207 hS hA.1 ⟨by omega, by omega⟩ ⟨by omega, by omega⟩ ⟨by omega, by omega⟩ ⟨by omega, by omega⟩ ⟨by omega, by omega⟩ ⟨by omega, by omega⟩ ⟨by omega, by omega⟩ (by rw [hP.1]; exact ⟨by omega, by omega⟩) ⟨by omega, by omega, by omega⟩ (fun M' O' e6 e16 e74 e75 e71 => ?_)
  rw [hP.1] at O' e6 e74 e75 e71
  have hcl : ∀ j q, q < k → g_add (p_T A cnt D) P k b m j q = P j q := fun j q hq => g_ap_o (by omega)
  have pg := g_add_pg (T := p_T A cnt D) (P := P) (c := k) (b := b) (m := m)
  obtain ⟨f0, f1, f2, fx⟩ := g_bf_c hcl (k := k) (Int.le_refl _)
  have r71 : ∀ s, 20 * c ≤ s → s < 20 * c + 20 → M' 71 0 s % 16384 = M 71 0 s % 16384 ∧ (0 ≤ M 71 0 s ∧ M 71 0 s ≤ 2147483647 → 0 ≤ M' 71 0 s ∧ M' 71 0 s ≤ 2147483647) := fun s s0 s1 => by
    by_cases z : 20 * c + g_bf P 0 k ≤ s ∧ s < 20 * c + b
    · have := e71 (s - 20 * c) (by omega) (by omega)
      rw [show 20 * c + (s - 20 * c) = s by omega] at this
      rw [this]
      exact ⟨by omega, fun _ => by omega⟩
    · rw [O' 71 0 s (by omega) (by omega) (by omega)]
      exact ⟨rfl, fun z => z⟩
  refine H M' ⟨fun k' o s q => O' k' o s (fun z => q (by omega)) (fun z => q (by omega)) (fun z => q (by omega)), r71⟩ ⟨by rw [e6]; omega, fun q q0 q1 => ?_⟩ (by rw [e16, v16, v32, ss.2.1]) (O' _ _ _ (by omega) (by omega) (by omega)) (O' _ _ _ (by omega) (by omega) (by omega))
  by_cases eq : q = k
  · subst eq
    rw [f0, f1, f2, pg.1, pg.2.1, pg.2.2.1, pg.2.2.2.1, pg.2.2.2.2, f0, f1, f2]
    rw [v29, v30] at e74
    rw [v31] at e75
    refine ⟨⟨?_, ?_⟩, fun r r0 r1 => ?_⟩
    · rw [show p0 + 1 + q = p0 + q + 1 by omega, e74, show g_bf P 1 q + m - g_bf P 1 q = m by omega, show g_bf P 2 q + g_lines (p_T A cnt D) (g_bf P 0 q) b (g_bf P 1 q) m (g_bf P 2 q) - g_bf P 2 q = g_lines (p_T A cnt D) (g_bf P 0 q) b (g_bf P 1 q) m (g_bf P 2 q) by omega]
    · rw [show p0 + 1 + q = p0 + q + 1 by omega, e75]
    · rw [e71 r r0 (by omega)]
      omega
  · have hq := hP.2 q q0 (by omega)
    obtain ⟨x0, x1, x2, xx⟩ := g_bf_c hcl (k := q) (by omega)
    rw [x0, x1, x2, hcl 0 q (by omega), hcl 1 q (by omega), hcl 2 q (by omega), hcl 3 q (by omega), hcl 4 q (by omega)]
    refine ⟨⟨by rw [O' _ _ _ (by omega) (by omega) (by omega)]; exact hq.1.1, by rw [O' _ _ _ (by omega) (by omega) (by omega)]; exact hq.1.2⟩, fun r r0 r1 => ?_⟩
    have bb := (hso.2.2.2.1 q q0 (by omega))
    rw [O' _ _ _ (by omega) (by omega) (by omega)]
    exact hq.2 r r0 r1
end
