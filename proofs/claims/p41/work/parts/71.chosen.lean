/-! ===== PageMaker.addChosen, addBare ===== -/
/-- a page with rows, the best one at its place -/
def g_pB (T P : pT) (k : Int) : Prop := ∃ m, g_best T g_I (g_bf P 0 k) (g_bf P 1 k) (g_bf P 2 k) (g_x P k) (P 0 k) m ∧ P 1 k = g_bf P 1 k + m ∧ P 2 k = g_bf P 2 k + g_lines T (g_bf P 0 k) (P 0 k) (g_bf P 1 k) m (g_bf P 2 k) ∧ P 3 k = g_grown T (g_bf P 0 k) (P 0 k) (g_bf P 1 k) m (g_bf P 2 k) ∧ P 4 k = g_fill T (g_bf P 0 k) (P 0 k) (g_bf P 1 k) m (g_bf P 2 k)
/-- a page without rows -/
def g_pZ (T P : pT) (k : Int) : Prop := (g_bf P 1 k < T 8 2 ∨ g_bf P 2 k < T 8 3) ∧ P 0 k = T 8 0 ∧ P 1 k = g_bF T (g_bf P 1 k) ∧ P 2 k = g_bf P 2 k + g_bL T (g_bf P 1 k) (g_bf P 2 k) ∧ P 3 k = 0 ∧ P 4 k = g_bZ T (g_bf P 1 k) (g_bf P 2 k)
theorem g_bf_c {P P' : pT} {c k : Int} (h : ∀ j q, q < c → P' j q = P j q) (hk : k ≤ c) : g_bf P' 0 k = g_bf P 0 k ∧ g_bf P' 1 k = g_bf P 1 k ∧ g_bf P' 2 k = g_bf P 2 k ∧ g_x P' k = g_x P k := by
  unfold g_bf g_x
  by_cases k0 : k ≤ 0
  · rw [if_pos k0, if_pos k0, if_pos k0, if_pos k0, if_pos k0, if_pos k0]
    refine ⟨rfl, rfl, rfl, ?_⟩
    by_cases k1 : k = 0
    · rw [if_pos k1, if_pos k1]
    · rw [if_neg k1, if_neg k1]
      split
      · exact h _ _ (by omega)
      · rfl
  · rw [if_neg k0, if_neg k0, if_neg k0, if_neg k0, if_neg k0, if_neg k0]
    refine ⟨h _ _ (by omega), h _ _ (by omega), h _ _ (by omega), ?_⟩
    by_cases k1 : k = 0
    · rw [if_pos k1, if_pos k1]
    · rw [if_neg k1, if_neg k1]
      split
      · exact h _ _ (by omega)
      · rfl
theorem g_bf_s {P : pT} {j : Int} {c : Int} (hc : 0 ≤ c) : g_bf P j (c + 1) = P j.toNat c := by
  unfold g_bf
  rw [if_neg (by omega), show c + 1 - 1 = c by omega]
theorem g_x_s {P : pT} {c : Int} (hc : 0 ≤ c) (hf : ∀ k, 0 ≤ k → k ≤ c → 1 ≤ P 4 k) : g_x P (c + 1) = if g_x P c = 0 then P 4 c else 0 := by
  unfold g_x
  rw [if_neg (show ¬ c + 1 = 0 by omega), show c + 1 - 1 = c by omega]
  by_cases k : c = 0
  · rw [if_pos k, if_neg (show ¬ (15 : Int) = 0 by decide), if_neg (show ¬ (c + 1) % 2 = 0 by omega)]
  · rw [if_neg k]
    by_cases k2 : c % 2 = 0
    · have := hf (c - 1) (by omega) (by omega)
      rw [if_pos k2, if_neg (show ¬ P 4 (c - 1) = 0 by omega), if_neg (show ¬ (c + 1) % 2 = 0 by omega)]
    · rw [if_neg k2, if_pos rfl, if_pos (show (c + 1) % 2 = 0 by omega)]
theorem g_pB_c {T P P' : pT} {c k : Int} (h : ∀ j q, q < c → P' j q = P j q) (hk : k < c) (hb : g_pB T P k) : g_pB T P' k := by
  obtain ⟨e0, e1, e2, ex⟩ := g_bf_c h (k := k) (by omega)
  unfold g_pB
  rw [e0, e1, e2, ex, h 0 k hk, h 1 k hk, h 2 k hk, h 3 k hk, h 4 k hk]
  exact hb
theorem g_pZ_c {T P P' : pT} {c k : Int} (h : ∀ j q, q < c → P' j q = P j q) (hk : k < c) (hb : g_pZ T P k) : g_pZ T P' k := by
  obtain ⟨e0, e1, e2, ex⟩ := g_bf_c h (k := k) (by omega)
  unfold g_pZ
  rw [e1, e2, h 0 k hk, h 1 k hk, h 2 k hk, h 3 k hk, h 4 k hk]
  exact hb
def fr75 (n : Int) (M M' : qM) : Prop := fr67 n M M'
theorem g_far_bd {T : pT} {a b f m n x : Int} (hfi : 1 ≤ g_fill T a b f m n ∧ g_fill T a b f m n ≤ 14) (hx : 0 ≤ x ∧ x ≤ 15) : 0 ≤ g_far T a b f m n x ∧ g_far T a b f m n x ≤ 15 := by
  unfold g_far
  split
  · omega
  · split
    · omega
    · split
      · split <;> omega
      · omega
theorem g_V_0 {T : pT} (hT : g_tab T) {I : Int} (hI : 0 ≤ I) : ∀ (t : Nat) (a f n x : Int), T 8 0 - a ≤ t → g_at T a f n → (0 ≤ x ∧ x ≤ 15) → 0 ≤ g_V T I a f n x
  | 0, a, f, n, x, ht, hs, hx => by
    have tR := g_tab_at hT hs.1
    rw [g_V_end (by omega)]
    have := (g_bN_s hT (f := f) (n := n) ⟨hs.2.1.1, by have := hs.2.1; omega⟩ ⟨by have := hs.2.2; omega, by have := hs.2.2; omega⟩).1
    omega
  | t + 1, a, f, n, x, ht, hs, hx => by
    have tR := g_tab_at hT hs.1
    by_cases ha : T 8 0 ≤ a
    · rw [g_V_end ha]
      have := (g_bN_s hT (f := f) (n := n) ⟨hs.2.1.1, by have := hs.2.1; omega⟩ ⟨by have := hs.2.2; omega, by have := hs.2.2; omega⟩).1
      omega
    · rcases (g_V_p (T := T) (I := I) (a := a) (f := f) (n := n) (x := x) (by omega)).2.2 with h | ⟨b, m, hc, h⟩
      · rw [h]; exact hI
      · rw [h]
        have nums := g_nums hT hs hc.1 ⟨hc.2.1.1, hc.2.1.2.2⟩
        have nn := nums.2.2.2.2.2 hc.2.2
        have fb := g_far_bd (T := T) (a := a) (b := b) (f := f) (m := m) (n := n) nn.2.2.2.1 hx
        have := g_V_0 hT hI t b (f + m) (n + g_lines T a b f m n) (g_ahead T a b f m n x) (by have := hc.1; omega) (g_next hT hs hc.1 ⟨hc.2.1.1, hc.2.1.2.2⟩ hc.2.2) (by unfold g_ahead; split <;> omega)
        unfold g_val
        omega
theorem t75 {d : Nat} {h : qH} (hS : qSe h) {T P : pT} {r c n : Int} {M : qM} {F : qM → Prop} (hT : g_tab T) (hM : g_cM T r M) (hP : g_cP P c n M) (hc : 0 ≤ c ∧ c ≤ g_bf P 0 c) (hs : g_st T P c) (hR : g_bf P 0 c < T 8 0) (hfi : ∀ k, 0 ≤ k → k < c → 1 ≤ P 4 k ∧ P 4 k ≤ 14) (hw : 0 ≤ M 8 n 2 ∧ M 8 n 2 ≤ c) (ht : 0 ≤ M 8 n 3 ∧ M 8 n 3 ≤ 500 * c)
    (HC : ∀ a f nn x, g_at T a f nn → a < T 8 0 → 0 ≤ x → x ≤ 15 → q_bs (M 40 0 (g_place T a f nn)) x → g_V T g_I a f nn x < g_I → ∃ b m, g_best T g_I a f nn x b m ∧ M 42 0 (g_place T a f nn * 16 + x) = b * 4 + m)
    (HR : ∀ a f nn x b m, g_at T a f nn → a < T 8 0 → 0 ≤ x → x ≤ 15 → q_bs (M 40 0 (g_place T a f nn)) x → g_can T a f nn b m → b < T 8 0 → q_bs (M 40 0 (g_nx T a f nn b m)) (g_ahead T a b f m nn x))
    (h0 : q_bs (M 40 0 (g_place T (g_bf P 0 c) (g_bf P 1 c) (g_bf P 2 c))) (g_x P c)) (hV : g_V T g_I (g_bf P 0 c) (g_bf P 1 c) (g_bf P 2 c) (g_x P c) < g_I)
    (H : ∀ M' P' c', fr75 n M M' → c < c' → c' ≤ T 8 0 → (∀ j k, k < c → P' j k = P j k) → g_cP P' c' n M' → (∀ k, c ≤ k → k < c' → g_pB T P' k ∧ g_bf P' 0 k < T 8 0) → (∀ k, 0 ≤ k → k < c' → 1 ≤ P' 4 k ∧ P' 4 k ≤ 14) → g_st T P' c' → g_bf P' 0 c' = T 8 0 → M' 8 n 2 = M 8 n 2 + (c' - c) → M' 8 n 3 + 5 * g_bN T (g_bf P' 1 c') (g_bf P' 2 c') = M 8 n 3 + g_V T g_I (g_bf P 0 c) (g_bf P 1 c) (g_bf P 2 c) (g_x P c) → 0 ≤ M' 8 n 3 → M' 8 n 3 ≤ 500 * c' → F M') : e75 (d + 4) h n M F := by
  have h70 := hT.1
  refine w75 hS ?_
  -- g rounds done
  have loop : ∀ (t : Nat) (g : Int) (Q : pT) (u4 u5 : qV) (M1 : qM), 70 - g ≤ t → 0 ≤ g → fr75 n M M1 → (∀ j k, k < c → Q j k = P j k) → g_cP Q (c + g) n M1 → c + g ≤ g_bf Q 0 (c + g) → (∀ k, c ≤ k → k < c + g → g_pB T Q k ∧ g_bf Q 0 k < T 8 0) → (∀ k, 0 ≤ k → k < c + g → 1 ≤ Q 4 k ∧ Q 4 k ≤ 14) → g_st T Q (c + g) → g_bf Q 0 (c + g) < T 8 0 → q_bs (M1 40 0 (g_place T (g_bf Q 0 (c + g)) (g_bf Q 1 (c + g)) (g_bf Q 2 (c + g)))) (g_x Q (c + g)) → g_V T g_I (g_bf Q 0 (c + g)) (g_bf Q 1 (c + g)) (g_bf Q 2 (c + g)) (g_x Q (c + g)) < g_I → M1 8 n 2 = M 8 n 2 + g → M1 8 n 3 + g_V T g_I (g_bf Q 0 (c + g)) (g_bf Q 1 (c + g)) (g_bf Q 2 (c + g)) (g_x Q (c + g)) = M 8 n 3 + g_V T g_I (g_bf P 0 c) (g_bf P 1 c) (g_bf P 2 c) (g_x P c) → 0 ≤ M1 8 n 3 → M1 8 n 3 ≤ 500 * (c + g) → b75_4 d h F n 1 g u4 u5 M1 := by
    intro t
    induction t with
    | zero =>
      intro g Q u4 u5 M1 e0 g0 O1 _ _ hcg _ _ _ hR1
      omega
    | succ t ih =>
      intro g Q u4 u5 M1 e0 g0 O1 hQ hQ1 hcg hpb hfi1 hst hR1 hb1 hV1 hw1 ht1 htb1 htb2
      have hM1 : g_cM T r M1 := g_cM_fr hM (fun k m s q => O1 k m s (by omega) (by omega))
      have em := g_bf_mem hQ1 (by omega)
      have hst' : g_at T (g_bf Q 0 (c + g)) (g_bf Q 1 (c + g)) (g_bf Q 2 (c + g)) := hst
      have hx : 0 ≤ g_x Q (c + g) ∧ g_x Q (c + g) ≤ 15 := by
        unfold g_x
        split
        · omega
        · split
          · have := hfi1 (c + g - 1) (by omega) (by omega); omega
          · omega
      have o40 : ∀ s, M1 40 0 s = M 40 0 s := fun s => O1 _ _ _ (by omega) (by omega)
      have o42 : ∀ s, M1 42 0 s = M 42 0 s := fun s => O1 _ _ _ (by omega) (by omega)
      rw [o40] at hb1
      obtain ⟨b, m, hbest, hch⟩ := HC _ _ _ _ hst' hR1 hx.1 hx.2 hb1 hV1
      have hcan := hbest.1
      have pp := g_place_p hT hst'
      have hcm := hcan.2.1
      refine w75_4 hS ⟨fun _ => ⟨fun q => absurd q (by decide), fun _ => t82 hS (by rw [hQ1.1]; exact ⟨by omega, by omega⟩) ?_⟩, fun q => by omega⟩
      rw [hQ1.1, em.1]
      refine t83 hS ⟨by omega, by omega⟩ ?_
      rw [hQ1.1, em.2.1]
      refine t84 hS ⟨by omega, by omega⟩ ?_
      rw [em.2.2]
      refine t62 hS hT hM1 hst' ⟨⟨by omega, by omega⟩, t68 hS hQ1 ⟨by omega, by omega⟩ ⟨⟨by omega, by omega⟩, ⟨by omega, by omega⟩, ?_⟩⟩
      rw [o42, hch]
      have hb0 : 0 ≤ b := by have := hcan.1; have := hst'.1; omega
      have d4 : (b * 4 + m) / 4 = b := by omega
      have m4 : (b * 4 + m) % 4 = m := by omega
      rw [d4, m4]
      refine ⟨by omega, by omega, t67 hS hT hM1 hQ1 ⟨by omega, by omega⟩ hst hx (by omega) (by omega) (fun _ M2 O2 hQ2 w2 t2 => ⟨fun q => absurd q (by decide), fun _ => ?_⟩) (fun hno => absurd hcan hno)⟩
      have hM2 : g_cM T r M2 := g_cM_fr hM1 (fun k m s q => O2 k m s (by omega) (by omega))
      obtain ⟨m3, m4', r0, c1, -⟩ := id hM2
      have q1 : M2 7 0 3 - 1 = r := by omega
      -- the new pages
      have hap := g_ap_c (P := Q) (c := c + g) (a0 := b) (a1 := g_bf Q 1 (c + g) + m) (a2 := g_bf Q 2 (c + g) + g_lines T (g_bf Q 0 (c + g)) b (g_bf Q 1 (c + g)) m (g_bf Q 2 (c + g))) (a3 := g_grown T (g_bf Q 0 (c + g)) b (g_bf Q 1 (c + g)) m (g_bf Q 2 (c + g))) (a4 := g_fill T (g_bf Q 0 (c + g)) b (g_bf Q 1 (c + g)) m (g_bf Q 2 (c + g)))
      have hold : ∀ j q, q < c + g → g_add T Q (c + g) b m j q = Q j q := fun j q hq => g_ap_o (by omega)
      generalize hQ' : g_add T Q (c + g) b m = Q' at *
      have hap' : Q' 0 (c + g) = b ∧ Q' 1 (c + g) = g_bf Q 1 (c + g) + m ∧ Q' 2 (c + g) = g_bf Q 2 (c + g) + g_lines T (g_bf Q 0 (c + g)) b (g_bf Q 1 (c + g)) m (g_bf Q 2 (c + g)) ∧ Q' 3 (c + g) = g_grown T (g_bf Q 0 (c + g)) b (g_bf Q 1 (c + g)) m (g_bf Q 2 (c + g)) ∧ Q' 4 (c + g) = g_fill T (g_bf Q 0 (c + g)) b (g_bf Q 1 (c + g)) m (g_bf Q 2 (c + g)) := by rw [← hQ']; exact hap
      obtain ⟨f0, f1, f2, fx⟩ := g_bf_c hold (k := c + g) (Int.le_refl _)
      have n0 : g_bf Q' 0 (c + g + 1) = b := (g_bf_s (by omega)).trans hap'.1
      have n1 : g_bf Q' 1 (c + g + 1) = g_bf Q 1 (c + g) + m := (g_bf_s (by omega)).trans hap'.2.1
      have n2 : g_bf Q' 2 (c + g + 1) = g_bf Q 2 (c + g) + g_lines T (g_bf Q 0 (c + g)) b (g_bf Q 1 (c + g)) m (g_bf Q 2 (c + g)) := (g_bf_s (by omega)).trans hap'.2.2.1
      have nums := g_nums hT hst' hcan.1 ⟨hcm.1, hcm.2.2⟩
      have ng := nums.2.2.2.2.2 hcan.2.2
      have nxt := g_next hT hst' hcan.1 ⟨hcm.1, hcm.2.2⟩ hcan.2.2
      have hfi2 : ∀ k, 0 ≤ k → k < c + g + 1 → 1 ≤ Q' 4 k ∧ Q' 4 k ≤ 14 := fun k k0 k1 => by
        by_cases e : k = c + g
        · rw [e, hap'.2.2.2.2]; exact ng.2.2.2.1
        · rw [hold 4 k (by omega)]; exact hfi1 k k0 (by omega)
      have nx : g_x Q' (c + g + 1) = g_ahead T (g_bf Q 0 (c + g)) b (g_bf Q 1 (c + g)) m (g_bf Q 2 (c + g)) (g_x Q (c + g)) := by
        rw [g_x_s (by omega) (fun k k0 k1 => (hfi2 k k0 (by omega)).1), fx, hap'.2.2.2.2]
        rfl
      have hpb2 : ∀ k, c ≤ k → k < c + g + 1 → g_pB T Q' k ∧ g_bf Q' 0 k < T 8 0 := fun k k0 k1 => by
        by_cases e : k = c + g
        · subst e
          refine ⟨⟨m, ?_⟩, by rw [f0]; exact hR1⟩
          rw [f0, f1, f2, fx, hap'.1, hap'.2.1, hap'.2.2.1, hap'.2.2.2.1, hap'.2.2.2.2]
          exact ⟨hbest, rfl, rfl, rfl, rfl⟩
        · have := hpb k k0 (by omega)
          exact ⟨g_pB_c hold (by omega) this.1, by rw [(g_bf_c hold (k := k) (by omega)).1]; exact this.2⟩
      have hst2 : g_st T Q' (c + g + 1) := by unfold g_st; rw [n0, n1, n2]; exact nxt
      have hval : g_cost T (g_bf Q 0 (c + g)) b (g_bf Q 1 (c + g)) m (g_bf Q 2 (c + g)) + g_far T (g_bf Q 0 (c + g)) b (g_bf Q 1 (c + g)) m (g_bf Q 2 (c + g)) (g_x Q (c + g)) + g_V T g_I b (g_bf Q 1 (c + g) + m) (g_bf Q 2 (c + g) + g_lines T (g_bf Q 0 (c + g)) b (g_bf Q 1 (c + g)) m (g_bf Q 2 (c + g))) (g_ahead T (g_bf Q 0 (c + g)) b (g_bf Q 1 (c + g)) m (g_bf Q 2 (c + g)) (g_x Q (c + g))) = g_V T g_I (g_bf Q 0 (c + g)) (g_bf Q 1 (c + g)) (g_bf Q 2 (c + g)) (g_x Q (c + g)) := hbest.2.1
      have farb := g_far_bd (T := T) (a := g_bf Q 0 (c + g)) (b := b) (f := g_bf Q 1 (c + g)) (m := m) (n := g_bf Q 2 (c + g)) ng.2.2.2.1 hx
      have O2' : fr75 n M M2 := fun k m' s q1 q2 => by rw [O2 k m' s q1 q2]; exact O1 k m' s q1 q2
      refine t82 hS (by rw [hQ2.1]; exact ⟨by omega, by omega⟩) ?_
      rw [hQ2.1, (g_bf_mem hQ2 (by omega)).1, n0]
      refine ⟨fun q => by omega, fun _ => ?_, fun q => by omega⟩
      rw [q1, c1]
      intro y hy
      refine ⟨⟨by omega, by omega⟩, ?_⟩
      have hcB := hcan.1
      by_cases hend : b < T 8 0
      · rw [if_pos hend] at hy
        rw [hy]
        have hb2 := HR _ _ _ _ b m hst' hR1 hx.1 hx.2 hb1 hcan hend
        refine ih (g + 1) Q' _ _ M2 (by omega) (by omega) O2' (fun j k hk => by rw [hold j k (by omega)]; exact hQ j k hk) ?_ ?_ ?_ ?_ ?_ ?_ ?_ ?_ ?_ ?_ ?_ ?_
        · rw [show c + (g + 1) = c + g + 1 by omega]; exact hQ2
        · rw [show c + (g + 1) = c + g + 1 by omega, n0]; omega
        · rw [show c + (g + 1) = c + g + 1 by omega]; exact hpb2
        · rw [show c + (g + 1) = c + g + 1 by omega]; exact hfi2
        · rw [show c + (g + 1) = c + g + 1 by omega]; exact hst2
        · rw [show c + (g + 1) = c + g + 1 by omega, n0]; exact hend
        · rw [show c + (g + 1) = c + g + 1 by omega, n0, n1, n2, nx, O2 _ _ _ (by omega) (by omega), o40]; exact hb2
        · rw [show c + (g + 1) = c + g + 1 by omega, n0, n1, n2, nx]; omega
        · omega
        · rw [show c + (g + 1) = c + g + 1 by omega, n0, n1, n2, nx]; omega
        · omega
        · omega
      · rw [if_neg hend] at hy
        rw [hy]
        have hbR : b = T 8 0 := by omega
        have hve : g_V T g_I b (g_bf Q 1 (c + g) + m) (g_bf Q 2 (c + g) + g_lines T (g_bf Q 0 (c + g)) b (g_bf Q 1 (c + g)) m (g_bf Q 2 (c + g))) (g_ahead T (g_bf Q 0 (c + g)) b (g_bf Q 1 (c + g)) m (g_bf Q 2 (c + g)) (g_x Q (c + g))) = 5 * g_bN T (g_bf Q 1 (c + g) + m) (g_bf Q 2 (c + g) + g_lines T (g_bf Q 0 (c + g)) b (g_bf Q 1 (c + g)) m (g_bf Q 2 (c + g))) := g_V_end (by omega)
        have done : F M2 := by
          refine H M2 Q' (c + g + 1) O2' (by omega) (by omega) (fun j k hk => by rw [hold j k (by omega)]; exact hQ j k hk) hQ2 hpb2 hfi2 hst2 (by rw [n0]; exact hbR) (by omega) ?_ (by omega) (by omega)
          rw [n1, n2]
          omega
        exact w75_4 hS ⟨fun _ => ⟨fun _ => done, fun q => absurd rfl q⟩, fun _ => done⟩
  refine loop 70 0 P _ _ M (by omega) (Int.le_refl _) (fun _ _ _ _ _ => rfl) (fun _ _ _ => rfl) ?_ ?_ (fun k a b => by omega) ?_ ?_ ?_ ?_ ?_ (by omega) ?_ ht.1 ?_
  all_goals rw [show c + 0 = c by omega]
  · exact hP
  · exact hc.2
  · exact hfi
  · exact hs
  · exact hR
  · exact h0
  · exact hV
  · exact ht.2
