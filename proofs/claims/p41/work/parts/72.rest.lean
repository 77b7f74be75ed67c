/-! ===== PageMaker.addBare, hasMadeRest ===== -/
def fr76 (n : Int) (M M' : qM) : Prop := ∀ (k : Nat) (m s : Int), ¬ (k = 7 ∧ m = 0 ∧ 10 ≤ s ∧ s ≤ 12) → ¬ (m = n ∧ ((k = 8 ∧ (s = 1 ∨ s = 2 ∨ s = 3)) ∨ (43 ≤ k ∧ k ≤ 47))) → M' k m s = M k m s
theorem t76 {d : Nat} {h : qH} (hS : qSe h) {T P : pT} {r c n : Int} {M : qM} {F : qM → Prop} (hT : g_tab T) (hM : g_cM T r M) (hP : g_cP P c n M) (hc : 0 ≤ c ∧ c ≤ 70) (hs : g_st T P c) (hR : g_bf P 0 c = T 8 0) (hw : 0 ≤ M 8 n 2 ∧ M 8 n 2 ≤ 900) (ht : 0 ≤ M 8 n 3 ∧ M 8 n 3 ≤ 100000)
    (H : ∀ M' P' c', fr76 n M M' → c ≤ c' → c' ≤ c + 16 → (∀ j k, k < c → P' j k = P j k) → g_cP P' c' n M' → (∀ k, c ≤ k → k < c' → g_pZ T P' k) → g_bf P' 1 c' = T 8 2 → g_bf P' 2 c' = T 8 3 → (∀ k, c ≤ k → k ≤ c' → g_bf P' 0 k = T 8 0) → (∀ k, c ≤ k → k < c' → 0 ≤ P' 4 k ∧ P' 4 k ≤ 14) → M' 8 n 2 = M 8 n 2 → M' 8 n 3 = M 8 n 3 + 5 * g_bN T (g_bf P 1 c) (g_bf P 2 c) → c' = c + g_bN T (g_bf P 1 c) (g_bf P 2 c) → F M') : e76 (d + 3) h n M F := by
  have em := g_bf_mem hP hc.1
  have hs' : g_at T (g_bf P 0 c) (g_bf P 1 c) (g_bf P 2 c) := hs
  have tR := g_tab_at hT hs'.1
  have hF := hT.2.2.1
  have hN := hT.2.2.2.1
  have hsf : 0 ≤ g_bf P 1 c ∧ g_bf P 1 c ≤ T 8 2 := by have := hs'.2.1; omega
  have hsn : 0 ≤ g_bf P 2 c ∧ g_bf P 2 c ≤ T 8 3 := by have := hs'.2.2; omega
  have b0 := g_bN_s hT hsf hsn
  refine w76 hS (t83 hS (by rw [hP.1]; exact ⟨by omega, by omega⟩) ?_)
  rw [hP.1, em.2.1]
  refine t84 hS ⟨by omega, by omega⟩ ?_
  rw [em.2.2]
  refine t66 hS hT hM hsf hsn (fun M1 O1 => ?_)
  have loop : ∀ (t : Nat) (Q : pT) (c1 : Int) (M2 : qM), g_bN T (g_bf Q 1 c1) (g_bf Q 2 c1) = t → c ≤ c1 → c1 + t = c + g_bN T (g_bf P 1 c) (g_bf P 2 c) → fr76 n M M2 → (∀ j k, k < c → Q j k = P j k) → g_cP Q c1 n M2 → (∀ k, c ≤ k → k < c1 → g_pZ T Q k) → (∀ k, c ≤ k → k ≤ c1 → g_bf Q 0 k = T 8 0) → (∀ k, c ≤ k → k < c1 → 0 ≤ Q 4 k ∧ Q 4 k ≤ 14) → (0 ≤ g_bf Q 1 c1 ∧ g_bf Q 1 c1 ≤ T 8 2) → (0 ≤ g_bf Q 2 c1 ∧ g_bf Q 2 c1 ≤ T 8 3) → M2 8 n 2 = M 8 n 2 → M2 8 n 3 + 5 * t = M 8 n 3 + 5 * g_bN T (g_bf P 1 c) (g_bf P 2 c) → b76_26 d h F n (g_bf Q 1 c1) (g_bf Q 2 c1) t M2 := by
    intro t
    induction t with
    | zero =>
      intro Q c1 M2 e0 e1 e2 O2 hQ hQ2 hz hr0 hfi h1 h2 hw2 ht2
      have bs := g_bN_s hT h1 h2
      have none' : ¬ (g_bf Q 1 c1 < T 8 2 ∨ g_bf Q 2 c1 < T 8 3) := fun z => by
        have h3 := bs.2.1 z
        have go := g_b_go hT h1 h2
        have gp := (g_bF_p hT h1).1
        have := (g_bN_s hT (f := g_bF T (g_bf Q 1 c1)) (n := g_bf Q 2 c1 + g_bL T (g_bf Q 1 c1) (g_bf Q 2 c1)) ⟨by omega, gp.2⟩ ⟨by omega, go.1.2⟩).1
        omega
      exact w76_26 hS ⟨fun _ => H M2 Q c1 O2 e1 (by omega) hQ hQ2 hz (by omega) (by omega) hr0 hfi hw2 (by omega) (by omega), fun q => absurd (Int.le_refl _) q⟩
    | succ t ih =>
      intro Q c1 M2 e0 e1 e2 O2 hQ hQ2 hz hr0 hfi h1 h2 hw2 ht2
      have hM2 : g_cM T r M2 := g_cM_fr hM (fun k m s q => O2 k m s (by omega) (by omega))
      have bs := g_bN_s hT h1 h2
      have more : g_bf Q 1 c1 < T 8 2 ∨ g_bf Q 2 c1 < T 8 3 := Classical.byContradiction fun z => by have := bs.2.2 z; omega
      have h3 := bs.2.1 more
      have go := g_b_go hT h1 h2
      have gp := (g_bF_p hT h1).1
      refine w76_26 hS ⟨fun q => by omega, fun _ => t65 hS hT hM2 h1 h2 (fun M3 O3 y1 y2 y3 => ?_)⟩
      rw [y1, y2, y3]
      have hM3 : g_cM T r M3 := g_cM_fr hM2 (fun k m s q => O3 k m s (by omega))
      obtain ⟨m3, m4, r0, c9, -⟩ := id hM3
      have q1 : M3 7 0 3 - 1 = r := by omega
      have hQ3 : g_cP Q c1 n M3 := ⟨by rw [O3 _ _ _ (by omega)]; exact hQ2.1, fun k a b => by rw [O3 _ _ _ (by omega), O3 _ _ _ (by omega), O3 _ _ _ (by omega), O3 _ _ _ (by omega), O3 _ _ _ (by omega)]; exact hQ2.2 k a b⟩
      have w3 : M3 8 n 2 = M 8 n 2 := by rw [O3 _ _ _ (by omega)]; exact hw2
      refine ⟨⟨by omega, by omega⟩, fun q => by omega, fun _ => ?_, fun q => by omega⟩
      rw [q1, c9]
      refine t81 hS hQ3 ⟨by omega, by omega⟩ (by omega) (fun M4 O4 hQ4 w4 => ?_)
      have t4 : M4 8 n 3 = M2 8 n 3 := by rw [O4 _ _ _ (by omega), O3 _ _ _ (by omega)]
      have hap := g_ap_c (P := Q) (c := c1) (a0 := T 8 0) (a1 := g_bF T (g_bf Q 1 c1)) (a2 := g_bf Q 2 c1 + g_bL T (g_bf Q 1 c1) (g_bf Q 2 c1)) (a3 := 0) (a4 := g_bZ T (g_bf Q 1 c1) (g_bf Q 2 c1))
      have hold : ∀ j q, q < c1 → g_ap Q c1 (T 8 0) (g_bF T (g_bf Q 1 c1)) (g_bf Q 2 c1 + g_bL T (g_bf Q 1 c1) (g_bf Q 2 c1)) 0 (g_bZ T (g_bf Q 1 c1) (g_bf Q 2 c1)) j q = Q j q := fun j q hq => g_ap_o (by omega)
      generalize hQ' : g_ap Q c1 (T 8 0) (g_bF T (g_bf Q 1 c1)) (g_bf Q 2 c1 + g_bL T (g_bf Q 1 c1) (g_bf Q 2 c1)) 0 (g_bZ T (g_bf Q 1 c1) (g_bf Q 2 c1)) = Q' at *
      obtain ⟨f0, f1, f2, fx⟩ := g_bf_c hold (k := c1) (Int.le_refl _)
      have n0 : g_bf Q' 0 (c1 + 1) = T 8 0 := (g_bf_s (by omega)).trans hap.1
      have n1 : g_bf Q' 1 (c1 + 1) = g_bF T (g_bf Q 1 c1) := (g_bf_s (by omega)).trans hap.2.1
      have n2 : g_bf Q' 2 (c1 + 1) = g_bf Q 2 c1 + g_bL T (g_bf Q 1 c1) (g_bf Q 2 c1) := (g_bf_s (by omega)).trans hap.2.2.1
      have w4' : M4 8 n 2 = M 8 n 2 := by
        have e0 : g_bf Q 0 c1 = T 8 0 := hr0 c1 e1 (Int.le_refl _)
        rw [w4, w3, e0, if_pos (Int.le_refl _)]; omega
      refine ⟨⟨by omega, by omega⟩, fun M5 f5 => ⟨⟨by omega, by omega⟩, ?_⟩⟩
      have O5 : ∀ (k : Nat) (m s : Int), ¬ (k = 8 ∧ m = n ∧ s = 3) → M5 k m s = M4 k m s := fun k m s q => by rw [f5]; unfold qU; rw [if_neg q]
      have t5 : M5 8 n 3 = M4 8 n 3 + 5 := by rw [f5, qU_s]
      have ih' := ih Q' (c1 + 1) M5 (by rw [n1, n2]; omega) (by omega) (by omega) (fun k m s q1 q2 => by rw [O5 k m s (by omega), O4 k m s (by omega), O3 k m s q1]; exact O2 k m s q1 q2) (fun j k hk => by rw [hold j k (by omega)]; exact hQ j k hk) ⟨by rw [O5 _ _ _ (by omega)]; exact hQ4.1, fun k a b => by rw [O5 _ _ _ (by omega), O5 _ _ _ (by omega), O5 _ _ _ (by omega), O5 _ _ _ (by omega), O5 _ _ _ (by omega)]; exact hQ4.2 k a b⟩ (fun k k0 k1 => ?_) (fun k k0 k1 => ?_) (fun k k0 k1 => ?_) (by rw [n1]; exact ⟨by omega, gp.2⟩) (by rw [n2]; exact ⟨by omega, go.1.2⟩) (by rw [O5 _ _ _ (by omega)]; exact w4') (by omega)
      · rw [n1, n2] at ih'
        rw [show ((t + 1 : Nat) : Int) + -1 = (t : Int) by omega]
        exact ih'
      · by_cases e : k = c1
        · subst e
          unfold g_pZ
          rw [f1, f2, hap.1, hap.2.1, hap.2.2.1, hap.2.2.2.1, hap.2.2.2.2]
          exact ⟨more, rfl, rfl, rfl, rfl, rfl⟩
        · exact g_pZ_c hold (by omega) (hz k k0 (by omega))
      · by_cases e : k = c1 + 1
        · rw [e]; exact n0
        · rw [(g_bf_c hold (k := k) (by omega)).1]; exact hr0 k k0 (by omega)
      · by_cases e : k = c1
        · rw [e, hap.2.2.2.2]; exact go.2.1
        · rw [hold 4 k (by omega)]; exact hfi k k0 (by omega)
  have l0 := loop (g_bN T (g_bf P 1 c) (g_bf P 2 c)).toNat P c M1 (by omega) (Int.le_refl _) (by omega) (fun k m s q1 _ => O1 k m s q1) (fun _ _ _ => rfl) ⟨by rw [O1 _ _ _ (by omega)]; exact hP.1, fun k a b => by rw [O1 _ _ _ (by omega), O1 _ _ _ (by omega), O1 _ _ _ (by omega), O1 _ _ _ (by omega), O1 _ _ _ (by omega)]; exact hP.2 k a b⟩ (fun k a b => by omega) (fun k a b => by rw [show k = c by omega]; exact hR) (fun k a b => by omega) hsf hsn (O1 _ _ _ (by omega)) (by rw [O1 _ _ _ (by omega)]; omega)
  rw [show (((g_bN T (g_bf P 1 c) (g_bf P 2 c)).toNat : Nat) : Int) = g_bN T (g_bf P 1 c) (g_bf P 2 c) by omega] at l0
  exact l0
/-- the pages behind those that there are are the best ones -/
def g_rest (T P : pT) (c : Int) (P' : pT) (c' : Int) : Prop := ∃ cw, (c < cw ∧ cw ≤ c') ∧ (cw ≤ T 8 0 ∧ c' ≤ cw + 16) ∧ (∀ j k, k < c → P' j k = P j k) ∧ (∀ k, c ≤ k → k < cw → g_pB T P' k ∧ g_bf P' 0 k < T 8 0) ∧ (∀ k, cw ≤ k → k < c' → g_pZ T P' k) ∧ (∀ k, cw ≤ k → k ≤ c' → g_bf P' 0 k = T 8 0) ∧ g_bf P' 1 c' = T 8 2 ∧ g_bf P' 2 c' = T 8 3
def fr69 (n : Int) (M M' : qM) : Prop := ∀ (k : Nat) (m s : Int), ¬ (k = 7 ∧ m = 0 ∧ 5 ≤ s ∧ s ≤ 12) → ¬ ((k = 40 ∨ k = 41 ∨ k = 42) ∧ m = 0) → ¬ (m = n ∧ ((k = 8 ∧ (s = 1 ∨ s = 2 ∨ s = 3)) ∨ (43 ≤ k ∧ k ≤ 47))) → M' k m s = M k m s
theorem t69 {d : Nat} {h : qH} (hS : qSe h) {T P : pT} {r c n : Int} {M : qM} {F : Int → qM → Prop} (hT : g_tab T) (hM : g_cM T r M) (hP : g_cP P c n M) (hc : 0 ≤ c ∧ c ≤ g_bf P 0 c) (hs : g_st T P c) (hR : g_bf P 0 c < T 8 0) (hfi : ∀ k, 0 ≤ k → k < c → 1 ≤ P 4 k ∧ P 4 k ≤ 14) (hw : 0 ≤ M 8 n 2 ∧ M 8 n 2 ≤ c) (ht : 0 ≤ M 8 n 3 ∧ M 8 n 3 ≤ 500 * c) (hl : ∀ s, 0 ≤ M 41 0 s ∧ M 41 0 s ≤ 300000000) (hb0 : ∀ s, 0 ≤ M 40 0 s ∧ M 40 0 s < 65536)
    (H1 : g_V T g_I (g_bf P 0 c) (g_bf P 1 c) (g_bf P 2 c) (g_x P c) < g_I → ∀ M' P' c' cw, fr69 n M M' → (∀ s, 0 ≤ M' 41 0 s ∧ M' 41 0 s ≤ 300000000) → (∀ s, 0 ≤ M' 40 0 s ∧ M' 40 0 s < 65536) → g_cP P' c' n M' → g_rest T P c P' c' → (c < cw ∧ cw ≤ c') → g_bf P' 0 (cw - 1) < T 8 0 → (∀ k, cw ≤ k → k ≤ c' → g_bf P' 0 k = T 8 0) → (∀ k, 0 ≤ k → k < c' → 0 ≤ P' 4 k ∧ P' 4 k ≤ 14) → M' 8 n 2 = M 8 n 2 + (cw - c) → M' 8 n 3 = M 8 n 3 + g_V T g_I (g_bf P 0 c) (g_bf P 1 c) (g_bf P 2 c) (g_x P c) → F 1 M')
    (H0 : ¬ g_V T g_I (g_bf P 0 c) (g_bf P 1 c) (g_bf P 2 c) (g_x P c) < g_I → ∀ M', fr69 n M M' → (∀ s, 0 ≤ M' 41 0 s ∧ M' 41 0 s ≤ 300000000) → (∀ s, 0 ≤ M' 40 0 s ∧ M' 40 0 s < 65536) → F 0 M') : e69 (d + 5) h n M F := by
  have h70 := hT.1
  have hF := hT.2.2.1
  have hN := hT.2.2.2.1
  have em := g_bf_mem hP hc.1
  have hs' : g_at T (g_bf P 0 c) (g_bf P 1 c) (g_bf P 2 c) := hs
  have hx : 0 ≤ g_x P c ∧ g_x P c ≤ 15 := by
    unfold g_x
    split
    · omega
    · split
      · have := hfi (c - 1) (by omega) (by omega); omega
      · omega
  have pp := g_place_p hT hs'
  refine w69 hS (t82 hS (by rw [hP.1]; exact ⟨by omega, by omega⟩) ?_)
  rw [hP.1, em.1]
  refine t83 hS ⟨by omega, by omega⟩ ?_
  rw [hP.1, em.2.1]
  refine t84 hS ⟨by omega, by omega⟩ ?_
  rw [em.2.2]
  refine t62 hS hT hM hs' (t68 hS hP ⟨by omega, by omega⟩ (t267 (len := 1420) (x := (0, 0, 0)) rfl ⟨by decide, by decide⟩ (fun M1 O1 v1 => ?_)))
  have bp0 := q_bs_p (k := g_x P c) (x := 0) hx (Int.le_refl _)
  refine ⟨⟨by decide, by omega, by omega, by omega⟩, pp.1, fun M2 f2 => ⟨⟨by omega, by omega⟩, ?_⟩⟩
  generalize hA : g_bf P 0 c = a at *
  generalize hFf : g_bf P 1 c = f at *
  generalize hNn : g_bf P 2 c = nn at *
  generalize hpd : g_place T a f nn = p0 at *
  have O2 : ∀ (k : Nat) (m s : Int), ¬ (k = 40 ∧ m = 0) → M2 k m s = M k m s := fun k m s q => by rw [f2]; unfold qU; rw [if_neg (by omega)]; exact O1 k m s (by omega)
  have v2 : ∀ q, 0 ≤ q → q < 1420 → M2 40 0 q = if q = p0 then (1 : Int) * 2 ^ (g_x P c).toNat else 0 := fun q q0 q1 => by
    rw [f2]
    by_cases e : q = p0
    · rw [if_pos e, e, qU_s]
    · rw [if_neg e, qU_l e]; exact v1 q q0 q1
  have b2 : ∀ q, 0 ≤ M2 40 0 q ∧ M2 40 0 q < 65536 := fun q => by
    by_cases hq : 0 ≤ q ∧ q < 1420
    · rw [v2 q hq.1 hq.2]; split
      · exact bp0.1.1
      · omega
    · have : M2 40 0 q = M 40 0 q := by rw [f2, qU_l (by omega)]; exact O1 _ _ _ (by omega)
      rw [this]; exact hb0 q
  have hM2 : g_cM T r M2 := g_cM_fr hM (fun k m s q => O2 k m s (by omega))
  have hp0 : p0 = g_place T a f nn := hpd.symm
  -- what is in reached: only states, the first one
  let Val : qM → Prop := fun M' => ∀ q x, 0 ≤ q → q < 1420 → 0 ≤ x → x ≤ 15 → q_bs (M' 40 0 q) x → ∃ b f' n', g_at T b f' n' ∧ q = g_place T b f' n' ∧ a ≤ b ∧ b < T 8 0
  let Clo : Int → qM → Prop := fun p M' => ∀ b f' n' x b' m', g_at T b f' n' → b < T 8 0 → g_place T b f' n' < p → 0 ≤ x → x ≤ 15 → q_bs (M' 40 0 (g_place T b f' n')) x → g_can T b f' n' b' m' → b' < T 8 0 → q_bs (M' 40 0 (g_nx T b f' n' b' m')) (g_ahead T b b' f' m' n' x)
  have ahb : ∀ b b' f' m' n' x, g_at T b f' n' → g_can T b f' n' b' m' → 0 ≤ g_ahead T b b' f' m' n' x ∧ g_ahead T b b' f' m' n' x ≤ 15 := fun b b' f' m' n' x hs2 hc2 => by
    have nn := (g_nums hT hs2 hc2.1 ⟨hc2.2.1.1, hc2.2.1.2.2⟩).2.2.2.2.2 hc2.2.2
    unfold g_ahead
    split <;> omega
  have fwd : ∀ (M3 : qM), (∀ (k : Nat) (m s : Int), ¬ (k = 7 ∧ m = 0 ∧ 5 ≤ s ∧ s ≤ 9) → ¬ (k = 40 ∧ m = 0) → M3 k m s = M k m s) → (∀ q, 0 ≤ M3 40 0 q ∧ M3 40 0 q < 65536) → Val M3 → q_bs (M3 40 0 p0) (g_x P c) → Clo (a * 20) M3 → b69_61 d h F n a p0 (g_x P c) (a * 20) M3 := by
    refine q_upto (P := fun p => a * 20 ≤ p → ∀ (M3 : qM), (∀ (k : Nat) (m s : Int), ¬ (k = 7 ∧ m = 0 ∧ 5 ≤ s ∧ s ≤ 9) → ¬ (k = 40 ∧ m = 0) → M3 k m s = M k m s) → (∀ q, 0 ≤ M3 40 0 q ∧ M3 40 0 q < 65536) → Val M3 → q_bs (M3 40 0 p0) (g_x P c) → Clo p M3 → b69_61 d h F n a p0 (g_x P c) p M3) (a := a * 20) (b := T 8 0 * 20) (by omega) ?_ ?_ (Int.le_refl _)
    · intro _ M3 O3 b3 val3 st3 clo3
      have hM3 : g_cM T r M3 := g_cM_fr hM (fun k m s q => O3 k m s (by omega) (by omega))
      obtain ⟨m3, m4, r0, c1, -⟩ := id hM3
      have q1 : M3 7 0 3 - 1 = r := by omega
      refine w69_61 hS ⟨fun q => by omega, fun _ => ?_, fun q => by omega⟩
      rw [q1, c1]
      refine ⟨⟨by omega, by omega⟩, fun q => by omega, fun _ => t71 hS hT hM3 (fun M4 O4 bds ends => ?_)⟩
      have hM4 : g_cM T r M4 := g_cM_fr hM3 (fun k m s q => O4 k m s (by omega) (by omega))
      obtain ⟨m3', m4', -, c1', -⟩ := id hM4
      have q1' : M4 7 0 3 - 1 = r := by omega
      have e40 : ∀ q, M4 40 0 q = M3 40 0 q := fun q => O4 _ _ _ (by omega) (by omega)
      refine ⟨fun q => by omega, fun _ => ?_, fun q => by omega⟩
      rw [q1', c1']
      refine ⟨⟨by omega, by omega⟩, ⟨by omega, by omega⟩, ?_⟩
      -- from the end to the start
      have bwd : ∀ (M5 : qM), (∀ (k : Nat) (m s : Int), ¬ (k = 7 ∧ m = 0 ∧ 5 ≤ s ∧ s ≤ 9) → ¬ ((k = 41 ∨ k = 42) ∧ m = 0 ∧ s < T 8 0 * 320) → M5 k m s = M4 k m s) → (∀ s, 0 ≤ M5 41 0 s ∧ M5 41 0 s ≤ 300000000) → (∀ b f' n' x, g_at T b f' n' → b < T 8 0 → T 8 0 * 20 - 1 < g_place T b f' n' → 0 ≤ x → x ≤ 15 → q_bs (M3 40 0 (g_place T b f' n')) x → M5 41 0 (g_place T b f' n' * 16 + x) = g_V T g_I b f' n' x ∧ (g_V T g_I b f' n' x < g_I → ∃ b' m', g_best T g_I b f' n' x b' m' ∧ M5 42 0 (g_place T b f' n' * 16 + x) = b' * 4 + m')) → b69_116 d h F n a p0 (g_x P c) (T 8 0 * 20 - 1) M5 := by
        refine q_dnto (P := fun p => p < T 8 0 * 20 → ∀ (M5 : qM), (∀ (k : Nat) (m s : Int), ¬ (k = 7 ∧ m = 0 ∧ 5 ≤ s ∧ s ≤ 9) → ¬ ((k = 41 ∨ k = 42) ∧ m = 0 ∧ s < T 8 0 * 320) → M5 k m s = M4 k m s) → (∀ s, 0 ≤ M5 41 0 s ∧ M5 41 0 s ≤ 300000000) → (∀ b f' n' x, g_at T b f' n' → b < T 8 0 → p < g_place T b f' n' → 0 ≤ x → x ≤ 15 → q_bs (M3 40 0 (g_place T b f' n')) x → M5 41 0 (g_place T b f' n' * 16 + x) = g_V T g_I b f' n' x ∧ (g_V T g_I b f' n' x < g_I → ∃ b' m', g_best T g_I b f' n' x b' m' ∧ M5 42 0 (g_place T b f' n' * 16 + x) = b' * 4 + m')) → b69_116 d h F n a p0 (g_x P c) p M5) (a := a * 20 - 1) (b := T 8 0 * 20 - 1) (by omega) ?_ ?_ (by omega)
        · intro _ M5 O5 l5 v5
          have hx5 := v5 a f nn (g_x P c) hs' hR (by rw [← hp0]; omega) hx.1 hx.2 (by rw [← hp0]; exact st3)
          rw [← hp0] at hx5
          have fr0 : ∀ (k : Nat) (m s : Int), ¬ (k = 7 ∧ m = 0 ∧ 5 ≤ s ∧ s ≤ 12) → ¬ ((k = 40 ∨ k = 41 ∨ k = 42) ∧ m = 0) → M5 k m s = M k m s := fun k m s z1 z2 => by rw [O5 k m s (by omega) (by omega), O4 k m s (by omega) (by omega), O3 k m s (by omega) (by omega)]
          have b5 : ∀ s, 0 ≤ M5 40 0 s ∧ M5 40 0 s < 65536 := fun s => by rw [O5 _ _ _ (by omega) (by omega), e40]; exact b3 s
          have e540 : ∀ s, M5 40 0 s = M3 40 0 s := fun s => by rw [O5 _ _ _ (by omega) (by omega), e40]
          refine w69_116 hS ⟨⟨by omega, by omega⟩, fun _ => ⟨⟨by omega, by omega⟩, ⟨by omega, by omega⟩, ⟨by omega, by omega⟩, fun k => ?_, fun k => ?_⟩, fun q => by omega⟩
          · rw [hx5.1] at k
            have hM5 : g_cM T r M5 := g_cM_fr hM4 (fun k m s q => O5 k m s (by omega) (by omega))
            have hP5 : g_cP P c n M5 := ⟨by rw [fr0 _ _ _ (by omega) (by omega)]; exact hP.1, fun k a b => by rw [fr0 _ _ _ (by omega) (by omega), fr0 _ _ _ (by omega) (by omega), fr0 _ _ _ (by omega) (by omega), fr0 _ _ _ (by omega) (by omega), fr0 _ _ _ (by omega) (by omega)]; exact hP.2 k a b⟩
            have w5 : M5 8 n 2 = M 8 n 2 := fr0 _ _ _ (by omega) (by omega)
            have t5 : M5 8 n 3 = M 8 n 3 := fr0 _ _ _ (by omega) (by omega)
            refine t75 hS hT hM5 hP5 ⟨hc.1, by rw [hA]; exact hc.2⟩ hs (by rw [hA]; exact hR) hfi (by rw [w5]; exact hw) (by rw [t5]; exact ht) (fun b f' n' x s1 s2 x0 x1 hb hv => ?_) (fun b f' n' x b' m' s1 s2 x0 x1 hb hcan hlt => ?_) (by rw [hA, hFf, hNn, hpd, e540]; exact st3) (by rw [hA, hFf, hNn]; exact k) (fun M6 P6 cw O6 k1 k2 k3 k4 k5 k6 k7 k8 k9 k10 k11 k12 => ?_)
            · rw [e540] at hb
              have ps := g_place_p hT s1
              obtain ⟨b9, f9, n9, u1, u2, u3, u4⟩ := val3 _ x ps.1.1 ps.1.2 x0 x1 hb
              have ps9 := g_place_p hT u1
              rw [← u2] at ps9
              exact (v5 b f' n' x s1 s2 (by omega) x0 x1 hb).2 hv
            · rw [e540] at hb ⊢
              have ps := g_place_p hT s1
              exact clo3 b f' n' x b' m' s1 s2 (by omega) x0 x1 hb hcan hlt
            · have hM6 : g_cM T r M6 := g_cM_fr hM5 (fun k m s q => O6 k m s (by omega) (by omega))
              have tcw := hT.2.2.2.2.2.1
              have st6 : g_at T (g_bf P6 0 cw) (g_bf P6 1 cw) (g_bf P6 2 cw) := k7
              have bn6 := (g_bN_s hT (f := g_bf P6 1 cw) (n := g_bf P6 2 cw) ⟨by have := st6.2.1; omega, by have := st6.2.1; rw [k8, tcw.1] at this; omega⟩ ⟨by have := st6.2.2; rw [k8] at this; have := g_tab_at hT (a := T 8 0) ⟨h70.1, Int.le_refl _⟩; omega, by have := st6.2.2; rw [k8, tcw.2] at this; omega⟩).1
              rw [w5] at k9
              rw [hA, hFf, hNn, t5] at k10
              refine t76 hS hT hM6 k4 ⟨by omega, by omega⟩ k7 k8 (by omega) ⟨k11, by omega⟩ (fun M7 P7 c7 O7 l1 l2 l3 l4 l5' l6 l7 l8 l9 l10 l11 l12 => ?_)
              have last0 : ∀ q, q ≤ cw → g_bf P7 0 q = g_bf P6 0 q := fun q hq => (g_bf_c l3 hq).1
              refine H1 k M7 P7 c7 cw (fun k m s z1 z2 z3 => ?_) (fun s => ?_) (fun s => ?_) l4 ⟨cw, ⟨k1, l1⟩, ⟨k2, l2⟩, fun j q hq => by rw [l3 j q (by omega)]; exact k3 j q hq, fun q q0 q1 => ⟨g_pB_c l3 q1 (k5 q q0 q1).1, by rw [last0 q (by omega)]; exact (k5 q q0 q1).2⟩, l5', l8, l6, l7⟩ ⟨k1, l1⟩ (by rw [last0 _ (by omega)]; exact (k5 (cw - 1) (by omega) (by omega)).2) l8 (fun q q0 q1 => ?_) (by rw [l10, k9]) (by rw [l11]; omega)
              · rw [O7 k m s (by omega) (by omega), O6 k m s (by omega) (by omega), fr0 k m s (by omega) (by omega)]
              · rw [O7 _ _ _ (by omega) (by omega), O6 _ _ _ (by omega) (by omega)]; exact l5 s
              · rw [O7 _ _ _ (by omega) (by omega), O6 _ _ _ (by omega) (by omega)]; exact b5 s
              · by_cases hq : q < cw
                · rw [l3 4 q hq]; have := k6 q q0 hq; omega
                · exact l9 q (by omega) q1
          · rw [hx5.1] at k
            exact H0 k M5 (fun k m s z1 z2 _ => fr0 k m s z1 z2) l5 b5
        · intro p p0' p1 ih hpR M5 O5 l5 v5
          have e540 : ∀ s, M5 40 0 s = M3 40 0 s := fun s => by rw [O5 _ _ _ (by omega) (by omega), e40]
          have hM5 : g_cM T r M5 := g_cM_fr hM4 (fun k m s q => O5 k m s (by omega) (by omega))
          refine w69_116 hS ⟨⟨by omega, by omega⟩, fun q => by omega, fun _ => ⟨⟨by omega, by omega⟩, fun k => ⟨⟨by omega, by omega⟩, ?_⟩, fun k => ?_⟩⟩
          · rw [show p + -1 = p - 1 by omega]
            refine ih (by omega) M5 O5 l5 (fun b f' n' x s1 s2 s3 x0 x1 hb => ?_)
            by_cases e : g_place T b f' n' = p
            · exfalso
              rw [e, ← e540, k] at hb
              exact q_bs_z hb
            · exact v5 b f' n' x s1 s2 (by omega) x0 x1 hb
          · obtain ⟨z, hz, hzb⟩ := (q_bs_ne (v := M5 40 0 p) (by rw [e540]; exact b3 p)).mp k
            rw [e540] at hzb
            obtain ⟨b, f', n', s1, s2, s3, s4⟩ := val3 p z (by omega) (by omega) hz.1 hz.2 hzb
            have ps := g_place_p hT s1
            rw [← s2] at ps
            refine t72 hS hT hM5 s1 s4 s2 (fun q => by rw [e540]; exact b3 q) l5 (fun b' m' x hcan x0 x1 hb => ?_) (fun M6 O6 l6 v6 => ⟨⟨by omega, by omega⟩, ?_⟩)
            · rw [e540] at hb
              have hah := ahb b b' f' m' n' x s1 hcan
              have nxt := g_next hT s1 hcan.1 ⟨hcan.2.1.1, hcan.2.1.2.2⟩ hcan.2.2
              have psn := g_place_p hT nxt
              have e : g_nx T b f' n' b' m' = g_place T b' (f' + m') (n' + g_lines T b b' f' m' n') := rfl
              have hcb := hcan.1
              by_cases hlt : b' < T 8 0
              · have hb2 := clo3 b f' n' x b' m' s1 s4 (by omega) x0 x1 (by rw [← s2]; exact hb) hcan hlt
                rw [e] at hb2 ⊢
                exact (v5 b' _ _ _ nxt hlt (by omega) hah.1 hah.2 hb2).1
              · have hbR : b' = T 8 0 := by omega
                rw [e, g_V_end (by omega)]
                rw [hbR] at nxt psn hah ⊢
                rw [O5 _ _ _ (by omega) (by omega)]
                exact ends _ _ _ nxt hah.1 hah.2
            · rw [show p + -1 = p - 1 by omega]
              refine ih (by omega) M6 (fun k m s z1 z2 => by rw [O6 k m s z1 (by omega)]; exact O5 k m s z1 z2) l6 (fun b' f'' n'' x u1 u2 u3 x0 x1 hb => ?_)
              by_cases e : g_place T b' f'' n'' = p
              · have pu := g_place_p hT u1
                rw [e] at pu hb ⊢
                have eb : b' = b := by omega
                have ef : f'' = f' := by rw [← pu.2.2.1, ← ps.2.2.1, eb]
                have en : n'' = n' := by rw [← pu.2.2.2, ← ps.2.2.2, eb]
                rw [eb, ef, en]
                exact v6 x x0 x1 (by rw [e540]; exact hb)
              · have := v5 b' f'' n'' x u1 u2 (by omega) x0 x1 hb
                rw [O6 _ _ _ (by omega) (by omega), O6 _ _ _ (by omega) (by omega)]
                exact this
      have l4 : ∀ s, 0 ≤ M4 41 0 s ∧ M4 41 0 s ≤ 300000000 := fun s => by
        have h3 := hl s
        rcases bds s with k | k
        · rw [k, O3 _ _ _ (by omega) (by omega)]; exact h3
        · omega
      exact bwd M4 (fun _ _ _ _ _ => rfl) l4 (fun b f' n' x s1 s2 s3 _ _ _ => by have := g_place_p hT s1; omega)
    · intro p p0' p1 ih hp20 M3 O3 b3 val3 st3 clo3
      have hM3 : g_cM T r M3 := g_cM_fr hM (fun k m s q => O3 k m s (by omega) (by omega))
      obtain ⟨m3, m4, r0, c1, -⟩ := id hM3
      have q1 : M3 7 0 3 - 1 = r := by omega
      refine w69_61 hS ⟨fun q => by omega, fun _ => ?_, fun q => by omega⟩
      rw [q1, c1]
      refine ⟨⟨by omega, by omega⟩, fun _ => ⟨⟨by omega, by omega⟩, fun k => ⟨⟨by omega, by omega⟩, ih (by omega) M3 O3 b3 val3 st3 (fun b f' n' x b' m' s1 s2 s3 x0 x1 hb hcan hlt => ?_)⟩, fun k => ?_⟩, fun q => by omega⟩
      · by_cases e : g_place T b f' n' = p
        · exfalso
          rw [e, k] at hb
          exact q_bs_z hb
        · exact clo3 b f' n' x b' m' s1 s2 (by omega) x0 x1 hb hcan hlt
      · obtain ⟨z, hz, hzb⟩ := (q_bs_ne (v := M3 40 0 p) (b3 p)).mp k
        obtain ⟨b, f', n', s1, s2, s3, s4⟩ := val3 p z (by omega) (by omega) hz.1 hz.2 hzb
        have ps := g_place_p hT s1
        rw [← s2] at ps
        refine t70 hS hT hM3 s1 s4 s2 b3 (fun M4 hR4 => ⟨⟨by omega, by omega⟩, ?_⟩)
        obtain ⟨r1, r2, r3, r4, r5⟩ := hR4
        have same : ∀ q, q < 20 * (b + 1) → M4 40 0 q = M3 40 0 q := fun q hq => r1 _ _ _ (by omega) (by omega)
        refine ih (by omega) M4 (fun k m s z1 z2 => by rw [r1 k m s z1 (by omega)]; exact O3 k m s z1 z2) r2 (fun q x q0 q1 x0 x1 hb => ?_) (r3 _ _ st3) (fun b9 f9 n9 x b' m' u1 u2 u3 x0 x1 hb hcan hlt => ?_)
        · rcases r4 q x x0 hb with hb | ⟨b', m', y, hy, hb, hcan, hlt, hq, hx9⟩
          · exact val3 q x q0 q1 x0 x1 hb
          · have nxt := g_next hT s1 hcan.1 ⟨hcan.2.1.1, hcan.2.1.2.2⟩ hcan.2.2
            have hcb := hcan.1
            exact ⟨b', _, _, nxt, hq, by omega, hlt⟩
        · have pu := g_place_p hT u1
          rw [same _ (by omega)] at hb
          by_cases e : g_place T b9 f9 n9 = p
          · rw [e] at pu hb
            have eb : b9 = b := by omega
            have ef : f9 = f' := by rw [← pu.2.2.1, ← ps.2.2.1, eb]
            have en : n9 = n' := by rw [← pu.2.2.2, ← ps.2.2.2, eb]
            rw [eb, ef, en] at hcan ⊢
            exact r5 b' m' x trivial ⟨x0, x1⟩ hb hcan hlt
          · exact r3 _ _ (clo3 b9 f9 n9 x b' m' u1 u2 (by omega) x0 x1 hb hcan hlt)
  refine fwd M2 (fun k m s _ z => O2 k m s z) b2 (fun q x q0 q1 x0 x1 hb => ?_) ?_ (fun b f' n' x b' m' s1 s2 s3 x0 x1 hb hcan hlt => ?_)
  · rw [v2 q q0 q1] at hb
    by_cases e : q = p0
    · exact ⟨a, f, nn, hs', by rw [e]; exact hp0, Int.le_refl _, hR⟩
    · rw [if_neg e] at hb
      exact absurd hb q_bs_z
  · rw [v2 p0 pp.1.1 pp.1.2, if_pos rfl]
    exact (q_bs_p hx hx.1).2.mpr rfl
  · have ps := g_place_p hT s1
    rw [v2 _ ps.1.1 ps.1.2] at hb
    by_cases e : g_place T b f' n' = p0
    · omega
    · rw [if_neg e] at hb
      exact absurd hb q_bs_z
