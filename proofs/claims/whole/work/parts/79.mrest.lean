/-! ===== FacingleafModel.manyBare that adds; the rest of a chapter's pages ===== -/
theorem t186a {d : Nat} {h : qH} (hS : qSe h) {T P : pT} {c cnt p0 : Int} {M : qM} {F : Int → qM → Prop} (hT : g_tab T) (hM : g_mT T c M) (hP : g_mP P cnt p0 c M) (hcnt : 0 ≤ cnt) (hp0 : 0 ≤ p0 ∧ p0 + cnt + 16 < 390) (hs : g_st T P cnt) (hR : g_bf P 0 cnt = T 8 0) (hmono : ∀ k, 0 ≤ k → k < cnt → P 0 k ≤ T 8 0)
    (H : ∀ M' P' c', fr195 c (T 8 0) (p0 + cnt) M M' → M' 116 0 c = M 116 0 c → cnt ≤ c' → c' ≤ cnt + 16 → (∀ j k, k < cnt → P' j k = P j k) → g_mP P' c' p0 c M' → (∀ k, cnt ≤ k → k < c' → g_pZ T P' k) → g_bf P' 1 c' = T 8 2 → g_bf P' 2 c' = T 8 3 → (∀ k, cnt ≤ k → k ≤ c' → g_bf P' 0 k = T 8 0) → c' = cnt + g_bN T (g_bf P 1 cnt) (g_bf P 2 cnt) → F (g_bN T (g_bf P 1 cnt) (g_bf P 2 cnt)) M') : e186 (d + 2) h c (g_bf P 1 cnt) (g_bf P 2 cnt) 1 M F := by
  have h70 := hT.1
  have hF := hT.2.2.1
  have hN := hT.2.2.2.1
  have hs' : g_at T (g_bf P 0 cnt) (g_bf P 1 cnt) (g_bf P 2 cnt) := hs
  have tR := g_tab_at hT hs'.1
  have c0 := hM.1
  have hsf : 0 ≤ g_bf P 1 cnt ∧ g_bf P 1 cnt ≤ T 8 2 := by have := hs'.2.1; omega
  have hsn : 0 ≤ g_bf P 2 cnt ∧ g_bf P 2 cnt ≤ T 8 3 := by have := hs'.2.2; omega
  have b0 := g_bN_s hT hsf hsn
  refine w186 hS ?_
  have loop : ∀ (t : Nat) (Q : pT) (c1 p : Int) (u2 u3 u8 u9 u10 : qV) (M1 : qM), g_bN T (g_bf Q 1 c1) (g_bf Q 2 c1) = t → cnt ≤ c1 → p = c1 - cnt → p + t = g_bN T (g_bf P 1 cnt) (g_bf P 2 cnt) → fr195 c (T 8 0) (p0 + cnt) M M1 → M1 116 0 c = M 116 0 c → (∀ j k, k < cnt → Q j k = P j k) → g_mP Q c1 p0 c M1 → (∀ k, cnt ≤ k → k < c1 → g_pZ T Q k) → (∀ k, cnt ≤ k → k ≤ c1 → g_bf Q 0 k = T 8 0) → (∀ k, 0 ≤ k → k < c1 → Q 0 k ≤ T 8 0) → (0 ≤ g_bf Q 1 c1 ∧ g_bf Q 1 c1 ≤ T 8 2) → (0 ≤ g_bf Q 2 c1 ∧ g_bf Q 2 c1 ≤ T 8 3) → b186_9 d h F c u2 u3 1 p (g_bf Q 1 c1) (g_bf Q 2 c1) u8 u9 u10 M1 := by
    intro t
    induction t with
    | zero =>
      intro Q c1 p u2 u3 u8 u9 u10 M1 e0 e1 ep e2 O1 o116 hQ hQ1 hz hr0 hm1 h1 h2
      have bs := g_bN_s hT h1 h2
      have none' : ¬ (g_bf Q 1 c1 < T 8 2 ∨ g_bf Q 2 c1 < T 8 3) := fun z => by
        have h3 := bs.2.1 z
        have go := g_b_go hT h1 h2
        have gp := (g_bF_p hT h1).1
        have := (g_bN_s hT (f := g_bF T (g_bf Q 1 c1)) (n := g_bf Q 2 c1 + g_bL T (g_bf Q 1 c1) (g_bf Q 2 c1)) ⟨by omega, gp.2⟩ ⟨by omega, go.1.2⟩).1
        omega
      have hM1 := g_mT_fr hM (M' := M1) (fun k m s q => O1 k m s (by omega))
      have done : F p M1 := by
        rw [show p = g_bN T (g_bf P 1 cnt) (g_bf P 2 cnt) by omega]
        exact H M1 Q c1 O1 o116 e1 (by omega) hQ hQ1 hz (by omega) (by omega) hr0 (by omega)
      exact w186_9 hS ⟨c0, fun q => by rw [hM1.2.2.2.1] at q; omega, fun _ => ⟨c0, fun q => by rw [hM1.2.2.2.2.1] at q; omega, fun _ => done⟩⟩
    | succ t ih =>
      intro Q c1 p u2 u3 u8 u9 u10 M1 e0 e1 ep e2 O1 o116 hQ hQ1 hz hr0 hm1 h1 h2
      have hM1 := g_mT_fr hM (M' := M1) (fun k m s q => O1 k m s (by omega))
      have bs := g_bN_s hT h1 h2
      have more : g_bf Q 1 c1 < T 8 2 ∨ g_bf Q 2 c1 < T 8 3 := Classical.byContradiction fun z => by have := bs.2.2 z; omega
      have h3 := bs.2.1 more
      have go := g_b_go hT h1 h2
      have gp := (g_bF_p hT h1).1
      have er0 : g_bf Q 0 c1 = T 8 0 := hr0 c1 e1 (Int.le_refl _)
      have step : ∀ (u2 u3 : qV), b186_42 d h F c u2 u3 1 p (g_bf Q 1 c1) (g_bf Q 2 c1) (g_bf Q 1 c1) (g_bf Q 2 c1) 0 M1 := fun u2 u3 => t186_42 hS hT hM1 h1 (t186_90 hS hT hM1 h1 h2 ⟨by omega, by omega⟩ (fun q => absurd q (by decide)) (fun _ u8 u9 u10 => by
        refine t195 hS (p := p0 + 1 + c1) (by rw [hQ1.1]; omega) ⟨by omega, by omega⟩ (Or.inr ⟨rfl, h70.1, by omega⟩) (fun M2 O2 y58 yv yr => ?_)
        have hap := g_ap_c (P := Q) (c := c1) (a0 := T 8 0) (a1 := g_bF T (g_bf Q 1 c1)) (a2 := g_bf Q 2 c1 + g_bL T (g_bf Q 1 c1) (g_bf Q 2 c1)) (a3 := 0) (a4 := g_bZ T (g_bf Q 1 c1) (g_bf Q 2 c1))
        have hold : ∀ j q, q < c1 → g_ap Q c1 (T 8 0) (g_bF T (g_bf Q 1 c1)) (g_bf Q 2 c1 + g_bL T (g_bf Q 1 c1) (g_bf Q 2 c1)) 0 (g_bZ T (g_bf Q 1 c1) (g_bf Q 2 c1)) j q = Q j q := fun j q hq => g_ap_o (by omega)
        generalize hQ' : g_ap Q c1 (T 8 0) (g_bF T (g_bf Q 1 c1)) (g_bf Q 2 c1 + g_bL T (g_bf Q 1 c1) (g_bf Q 2 c1)) 0 (g_bZ T (g_bf Q 1 c1) (g_bf Q 2 c1)) = Q' at *
        obtain ⟨f0, f1, f2, fx⟩ := g_bf_c hold (k := c1) (Int.le_refl _)
        have n0 : g_bf Q' 0 (c1 + 1) = T 8 0 := (g_bf_s (by omega)).trans hap.1
        have n1 : g_bf Q' 1 (c1 + 1) = g_bF T (g_bf Q 1 c1) := (g_bf_s (by omega)).trans hap.2.1
        have n2 : g_bf Q' 2 (c1 + 1) = g_bf Q 2 c1 + g_bL T (g_bf Q 1 c1) (g_bf Q 2 c1) := (g_bf_s (by omega)).trans hap.2.2.1
        have ih' := ih Q' (c1 + 1) (p + 1) u2 u3 u8 u9 u10 M2 (by rw [n1, n2]; omega) (by omega) (by omega) (by omega) (fun k m s q => by rw [O2 k m s (by omega)]; exact O1 k m s q) (by rw [O2 _ _ _ (by omega)]; exact o116) (fun j k hk => by rw [hold j k (by omega)]; exact hQ j k hk) ?_ (fun k k0 k1 => ?_) (fun k k0 k1 => ?_) (fun k k0 k1 => ?_) (by rw [n1]; exact ⟨by omega, gp.2⟩) (by rw [n2]; exact ⟨by omega, go.1.2⟩)
        · rw [n1, n2] at ih'
          exact ih'
        · refine g_mP_add (by omega) hQ1 hold (fun k k0 k1 => by rw [er0]; exact hm1 k k0 k1) y58 (fun k s q => by rw [O2 _ _ _ (by omega)]) ?_ (fun r r0 r1 => by rw [hap.1] at r1; omega)
          rw [hap.1, hap.2.1, hap.2.2.1, hap.2.2.2.1, hap.2.2.2.2, er0]
          refine ⟨yv.1, yv.2.1, by rw [yv.2.2.1]; omega, yv.2.2.2.1, yv.2.2.2.2.1, yv.2.2.2.2.2.1, ?_, yv.2.2.2.2.2.2.2.1, yv.2.2.2.2.2.2.2.2⟩
          rw [yv.2.2.2.2.2.2.1]; omega
        · by_cases e : k = c1
          · subst e
            unfold g_pZ
            rw [f1, f2, hap.1, hap.2.1, hap.2.2.1, hap.2.2.2.1, hap.2.2.2.2]
            exact ⟨more, rfl, rfl, rfl, rfl, rfl⟩
          · exact g_pZ_c hold (by omega) (hz k k0 (by omega))
        · by_cases e : k = c1 + 1
          · rw [e]; exact n0
          · rw [(g_bf_c hold (k := k) (by omega)).1]; exact hr0 k k0 (by omega)
        · by_cases e : k = c1
          · rw [e, hap.1]; exact Int.le_refl _
          · rw [hold 0 k (by omega)]; exact hm1 k k0 (by omega)))
      refine w186_9 hS ⟨c0, fun _ => step _ _, fun k => ⟨c0, fun _ => step _ _, fun k2 => ?_⟩⟩
      exfalso
      rw [hM1.2.2.2.1] at k
      rw [hM1.2.2.2.2.1] at k2
      omega
  exact loop (g_bN T (g_bf P 1 cnt) (g_bf P 2 cnt)).toNat P cnt 0 _ _ _ _ _ M (by omega) (Int.le_refl _) (by omega) (by omega) (fun _ _ _ _ => rfl) rfl (fun _ _ _ => rfl) hP (fun k a b => by omega) (fun k a b => by rw [show k = cnt by omega]; exact hR) hmono hsf hsn
def fr202 (c p0 : Int) (M M' : qM) : Prop := ∀ (k : Nat) (m s : Int), ¬ (m = 0 ∧ ((k = 11 ∧ 51 ≤ s ∧ s ≤ 58) ∨ (105 ≤ k ∧ k ≤ 113 ∧ p0 < s) ∨ (k = 92 ∧ 70 * c ≤ s ∧ s < 70 * c + 70) ∨ ((k = 115 ∨ k = 116) ∧ s = c))) → M' k m s = M k m s
theorem t202r {d : Nat} {h : qH} (hS : qSe h) {T P : pT} {c cnt p0 : Int} {M : qM} {F : Int → qM → Prop} (hT : g_tab T) (h67 : T 8 0 ≤ 67) (hM : g_mT T c M) (hP : g_mP P cnt p0 c M) (hcnt : 0 ≤ cnt ∧ cnt ≤ g_bf P 0 cnt) (hp0 : 0 ≤ p0 ∧ p0 ≤ 290) (hs : g_st T P cnt) (ha : g_bf P 0 cnt < T 8 0) (hfi : ∀ k, 0 ≤ k → k < cnt → 1 ≤ P 4 k ∧ P 4 k ≤ 14) (hmono : ∀ k, 0 ≤ k → k < cnt → P 0 k ≤ g_bf P 0 cnt)
    (hK : m_know T (g_bf P 0 cnt) M) (hr : M 103 0 (m_st T (g_bf P 0 cnt) (g_bf P 1 cnt) (g_bf P 2 cnt) (m_y P cnt)) = 1) (hV : g_V T g_I (g_bf P 0 cnt) (g_bf P 1 cnt) (g_bf P 2 cnt) (g_x P cnt) < g_I) (hco : 0 ≤ M 116 0 c ∧ M 116 0 c ≤ 500 * cnt) (u2 u4 : qV)
    (H : ∀ M' P' c', fr202 c (p0 + cnt) M M' → g_mP P' c' p0 c M' → g_rest T P cnt P' c' → M' 115 0 c = p0 + c' → M' 116 0 c = M 116 0 c + g_V T g_I (g_bf P 0 cnt) (g_bf P 1 cnt) (g_bf P 2 cnt) (g_x P cnt) → F 1 M') : b202_55 d h F c u2 (m_st T (g_bf P 0 cnt) (g_bf P 1 cnt) (g_bf P 2 cnt) (m_y P cnt)) u4 M := by
  have h70 := hT.1
  have c0 := hM.1
  have loop : ∀ (t : Nat) (Q : pT) (c1 : Int) (M1 : qM), T 8 0 - g_bf Q 0 c1 ≤ t → cnt < c1 ∨ Q = P ∧ c1 = cnt → c1 ≤ g_bf Q 0 c1 → fr202 c (p0 + cnt) M M1 → (∀ j k, k < cnt → Q j k = P j k) → g_mP Q c1 p0 c M1 → (∀ k, cnt ≤ k → k < c1 → g_pB T Q k ∧ g_bf Q 0 k < T 8 0) → (∀ k, 0 ≤ k → k < c1 → 1 ≤ Q 4 k ∧ Q 4 k ≤ 14) → (∀ k, 0 ≤ k → k < c1 → Q 0 k ≤ g_bf Q 0 c1) → g_st T Q c1 → m_know T (g_bf Q 0 c1) M1 → (g_bf Q 0 c1 < T 8 0 → M1 103 0 (m_st T (g_bf Q 0 c1) (g_bf Q 1 c1) (g_bf Q 2 c1) (m_y Q c1)) = 1) → g_V T g_I (g_bf Q 0 c1) (g_bf Q 1 c1) (g_bf Q 2 c1) (g_x Q c1) < g_I → M1 116 0 c + g_V T g_I (g_bf Q 0 c1) (g_bf Q 1 c1) (g_bf Q 2 c1) (g_x Q c1) = M 116 0 c + g_V T g_I (g_bf P 0 cnt) (g_bf P 1 cnt) (g_bf P 2 cnt) (g_x P cnt) → 0 ≤ M1 116 0 c → M1 116 0 c ≤ 500 * c1 → b202_55 d h F c u2 (m_st T (g_bf Q 0 c1) (g_bf Q 1 c1) (g_bf Q 2 c1) (m_y Q c1)) u4 M1 := by
    intro t
    induction t with
    | zero =>
      intro Q c1 M1 e0 e1 e2 O1 hQ hQ1 hpb hfi1 hm1 hst hK1 hr1 hV1 ht1 htb1 htb2
      have hM1 := g_mT_fr hM (M' := M1) (fun k m s q => O1 k m s (by omega))
      have hst' : g_at T (g_bf Q 0 c1) (g_bf Q 1 c1) (g_bf Q 2 c1) := hst
      have hR1 : g_bf Q 0 c1 = T 8 0 := by have := hst'.1; omega
      have hc1 : cnt < c1 := by
        rcases e1 with e1 | ⟨e1, e3⟩
        · exact e1
        · rw [e1, e3] at hR1; omega
      have yy := m_y_p (P := Q) (k := c1) (by omega) (fun _ => by omega) hfi1
      have ok1 : m_ok T (g_bf Q 0 c1) (g_bf Q 1 c1) (g_bf Q 2 c1) (m_y Q c1) := ⟨hst', yy.2.1, yy.2.2⟩
      have ps := m_st_p hT ok1
      have tR := g_tab_at hT hst'.1
      have bn := (g_bN_s hT (f := g_bf Q 1 c1) (n := g_bf Q 2 c1) ⟨hst'.2.1.1, by have := hst'.2.1; omega⟩ ⟨by have := hst'.2.2; omega, by have := hst'.2.2; omega⟩).1
      refine w202_55 hS ⟨ps.1.1, c0, fun q => by rw [ps.2.1, hM1.2.1] at q; omega, fun _ => ⟨c0, t189 hS ps.1.1 (t190 hS hT hM1 ⟨ps.1.1, by omega⟩ ?_)⟩⟩
      rw [ps.2.1, ps.2.2.1, ps.2.2.2.1]
      refine t186a hS hT hM1 hQ1 (by omega) ⟨hp0.1, by omega⟩ hst hR1 (fun k k0 k1 => by have := hm1 k k0 k1; omega) (fun M2 P2 c2 O2 o116 l1 l2 l3 l4 l5 l6 l7 l8 l9 => ?_)
      refine ⟨⟨by omega, by omega⟩, ⟨by omega, by omega⟩, c0, fun M3 f3 => ⟨c0, fun M4 f4 => ?_⟩⟩
      have O4 : ∀ (k : Nat) (m s : Int), ¬ ((k = 115 ∨ k = 116) ∧ m = 0 ∧ s = c) → M4 k m s = M2 k m s := fun k m s q => by rw [f4, f3]; unfold qU; rw [if_neg (by omega), if_neg (by omega)]
      refine H M4 P2 c2 (fun k m s q => ?_) ⟨by rw [O4 _ _ _ (by omega)]; exact l4.1, fun k k0 k1 => ?_⟩ ⟨c1, ⟨hc1, l1⟩, ⟨by omega, l2⟩, fun j k hk => by rw [l3 j k (by omega)]; exact hQ j k hk, fun k k0 k1 => ⟨g_pB_c l3 k1 (hpb k k0 k1).1, by rw [(g_bf_c l3 (k := k) (by omega)).1]; exact (hpb k k0 k1).2⟩, l5, l8, l6, l7⟩ ?_ ?_
      · rw [O4 k m s (by omega), O2 k m s (by omega)]; exact O1 k m s q
      · have := l4.2 k k0 k1
        rw [O4 _ _ _ (by omega), O4 _ _ _ (by omega), O4 _ _ _ (by omega), O4 _ _ _ (by omega), O4 _ _ _ (by omega), O4 _ _ _ (by omega), O4 _ _ _ (by omega), O4 _ _ _ (by omega), O4 _ _ _ (by omega)]
        exact ⟨this.1, fun r r0 r1 => by rw [O4 _ _ _ (by omega)]; exact this.2 r r0 r1⟩
      · rw [f4, qU_s, f3, qU_k (by decide)]; exact l4.1
      · rw [f4, qU_k (by decide), f3, qU_s]
        rw [g_V_end (by omega)] at ht1
        omega
    | succ t ih =>
      intro Q c1 M1 e0 e1 e2 O1 hQ hQ1 hpb hfi1 hm1 hst hK1 hr1 hV1 ht1 htb1 htb2
      have hst' : g_at T (g_bf Q 0 c1) (g_bf Q 1 c1) (g_bf Q 2 c1) := hst
      by_cases hR1 : g_bf Q 0 c1 < T 8 0
      · have hM1 := g_mT_fr hM (M' := M1) (fun k m s q => O1 k m s (by omega))
        have hc10 : 0 ≤ c1 := by rcases e1 with e1 | ⟨e1, e3⟩ <;> omega
        have yy := m_y_p (P := Q) (k := c1) hc10 (fun _ => by omega) hfi1
        have ok1 : m_ok T (g_bf Q 0 c1) (g_bf Q 1 c1) (g_bf Q 2 c1) (m_y Q c1) := ⟨hst', yy.2.1, yy.2.2⟩
        have ps := m_st_p hT ok1
        have hx := m_xb (a := g_bf Q 0 c1) yy.2.1
        rw [yy.1] at hx
        have hVV := g_V_I hT (T 8 0 - g_bf Q 0 c1).toNat (g_bf Q 0 c1) (g_bf Q 1 c1) (g_bf Q 2 c1) (g_x Q c1) (by omega) hst' hx
        have e1g : g_I = 268435456 := rfl
        have e2g : m_I = 536870912 := rfl
        refine w202_55 hS ⟨ps.1.1, c0, fun _ => t199 hS hT h67 hM1 hQ1 hc10 ⟨hp0.1, by omega⟩ ok1 hR1 hm1 hK1 (hr1 hR1) (by rw [yy.1]; omega) (by omega) (fun b m hb M2 O2 hP2 t2 => ?_), fun q => by rw [ps.2.1, hM1.2.1] at q; omega⟩
        rw [yy.1] at hb t2
        have hbest := g_best_I hT hst' hR1 hx hV1 hb
        have hcan := hbest.1
        have hcm := hcan.2.1
        have hcB := hcan.1
        have hap := g_ap_c (P := Q) (c := c1) (a0 := b) (a1 := g_bf Q 1 c1 + m) (a2 := g_bf Q 2 c1 + g_lines T (g_bf Q 0 c1) b (g_bf Q 1 c1) m (g_bf Q 2 c1)) (a3 := g_grown T (g_bf Q 0 c1) b (g_bf Q 1 c1) m (g_bf Q 2 c1)) (a4 := g_fill T (g_bf Q 0 c1) b (g_bf Q 1 c1) m (g_bf Q 2 c1))
        have hap' : g_add T Q c1 b m 0 c1 = b ∧ g_add T Q c1 b m 1 c1 = g_bf Q 1 c1 + m ∧ g_add T Q c1 b m 2 c1 = g_bf Q 2 c1 + g_lines T (g_bf Q 0 c1) b (g_bf Q 1 c1) m (g_bf Q 2 c1) ∧ g_add T Q c1 b m 3 c1 = g_grown T (g_bf Q 0 c1) b (g_bf Q 1 c1) m (g_bf Q 2 c1) ∧ g_add T Q c1 b m 4 c1 = g_fill T (g_bf Q 0 c1) b (g_bf Q 1 c1) m (g_bf Q 2 c1) := hap
        have hold : ∀ j q, q < c1 → g_add T Q c1 b m j q = Q j q := fun j q hq => g_ap_o (by omega)
        generalize hQ' : g_add T Q c1 b m = Q' at *
        obtain ⟨f0, f1, f2, fx⟩ := g_bf_c hold (k := c1) (Int.le_refl _)
        have n0 : g_bf Q' 0 (c1 + 1) = b := (g_bf_s hc10).trans hap'.1
        have n1 : g_bf Q' 1 (c1 + 1) = g_bf Q 1 c1 + m := (g_bf_s hc10).trans hap'.2.1
        have n2 : g_bf Q' 2 (c1 + 1) = g_bf Q 2 c1 + g_lines T (g_bf Q 0 c1) b (g_bf Q 1 c1) m (g_bf Q 2 c1) := (g_bf_s hc10).trans hap'.2.2.1
        have nums := g_nums hT hst' hcan.1 ⟨hcm.1, hcm.2.2⟩
        have ng := nums.2.2.2.2.2 hcan.2.2
        have nxt := g_next hT hst' hcan.1 ⟨hcm.1, hcm.2.2⟩ hcan.2.2
        have farb := g_far_bd (T := T) (a := g_bf Q 0 c1) (b := b) (f := g_bf Q 1 c1) (m := m) (n := g_bf Q 2 c1) ng.2.2.2.1 hx
        have hfi2 : ∀ k, 0 ≤ k → k < c1 + 1 → 1 ≤ Q' 4 k ∧ Q' 4 k ≤ 14 := fun k k0 k1 => by
          by_cases e : k = c1
          · rw [e, hap'.2.2.2.2]; exact ng.2.2.2.1
          · rw [hold 4 k (by omega)]; exact hfi1 k k0 (by omega)
        have nx : g_x Q' (c1 + 1) = g_ahead T (g_bf Q 0 c1) b (g_bf Q 1 c1) m (g_bf Q 2 c1) (g_x Q c1) := by
          rw [g_x_s hc10 (fun k k0 k1 => (hfi2 k k0 (by omega)).1), fx, hap'.2.2.2.2]
          rfl
        have ny : m_y Q' (c1 + 1) = g_ahead T (g_bf Q 0 c1) b (g_bf Q 1 c1) m (g_bf Q 2 c1) (g_x Q c1) := by
          unfold m_y
          rw [if_neg (by omega), nx]
        have enx : m_nx T (g_bf Q 0 c1) (g_bf Q 1 c1) (g_bf Q 2 c1) (m_y Q c1) b m = m_st T (g_bf Q' 0 (c1 + 1)) (g_bf Q' 1 (c1 + 1)) (g_bf Q' 2 (c1 + 1)) (m_y Q' (c1 + 1)) := by
          rw [n0, n1, n2, ny]
          unfold m_nx
          rw [yy.1]
        have hval : g_cost T (g_bf Q 0 c1) b (g_bf Q 1 c1) m (g_bf Q 2 c1) + g_far T (g_bf Q 0 c1) b (g_bf Q 1 c1) m (g_bf Q 2 c1) (g_x Q c1) + g_V T g_I b (g_bf Q 1 c1 + m) (g_bf Q 2 c1 + g_lines T (g_bf Q 0 c1) b (g_bf Q 1 c1) m (g_bf Q 2 c1)) (g_ahead T (g_bf Q 0 c1) b (g_bf Q 1 c1) m (g_bf Q 2 c1) (g_x Q c1)) = g_V T g_I (g_bf Q 0 c1) (g_bf Q 1 c1) (g_bf Q 2 c1) (g_x Q c1) := hbest.2.1
        have e103 : ∀ s, M2 103 0 s = M1 103 0 s := fun s => O2 _ _ _ (by omega)
        have e104 : ∀ s, M2 104 0 s = M1 104 0 s := fun s => O2 _ _ _ (by omega)
        rw [enx]
        refine ih Q' (c1 + 1) M2 (by rw [n0]; omega) (Or.inl (by rcases e1 with e1 | ⟨e1, e3⟩ <;> omega)) (by rw [n0]; omega) (fun k m s q => by rw [O2 k m s (by rcases e1 with e1 | ⟨e1, e3⟩ <;> omega)]; exact O1 k m s q) (fun j k hk => by rw [hold j k (by rcases e1 with e1 | ⟨e1, e3⟩ <;> omega)]; exact hQ j k hk) hP2 (fun k k0 k1 => ?_) hfi2 (fun k k0 k1 => ?_) (by unfold g_st; rw [n0, n1, n2]; exact nxt) ?_ (fun hlt => ?_) ?_ ?_ (by omega) (by omega)
        · by_cases e : k = c1
          · subst e
            refine ⟨⟨m, ?_⟩, by rw [f0]; exact hR1⟩
            rw [f0, f1, f2, fx, hap'.1, hap'.2.1, hap'.2.2.1, hap'.2.2.2.1, hap'.2.2.2.2]
            exact ⟨hbest, rfl, rfl, rfl, rfl⟩
          · have := hpb k k0 (by omega)
            exact ⟨g_pB_c hold (by omega) this.1, by rw [(g_bf_c hold (k := k) (by omega)).1]; exact this.2⟩
        · rw [n0]
          by_cases e : k = c1
          · rw [e, hap'.1]; exact Int.le_refl _
          · rw [hold 0 k (by omega)]; have := hm1 k k0 (by omega); omega
        · rw [n0]
          intro b2 f2' n2' y2 u1 u2' u3 u4'
          rw [e103] at u4'
          have := hK1 b2 f2' n2' y2 u1 (by omega) u3 u4'
          rw [e104]
          exact ⟨this.1, fun b' m' hc' hl' => by rw [e103]; exact this.2 b' m' hc' hl'⟩
        · rw [← enx, e103]
          rw [n0] at hlt
          exact (hK1 _ _ _ _ ok1 (Int.le_refl _) hR1 (hr1 hR1)).2 b m hcan hlt
        · rw [n0, n1, n2, nx]; omega
        · rw [n0, n1, n2, nx]; omega
      · exact (ih Q c1 M1 (by have := hst'.1; omega) e1 e2 O1 hQ hQ1 hpb hfi1 hm1 hst hK1 hr1 hV1 ht1 htb1 htb2)
  exact loop (T 8 0 - g_bf P 0 cnt).toNat P cnt M (by omega) (Or.inr ⟨rfl, rfl⟩) hcnt.2 (fun _ _ _ _ => rfl) (fun _ _ _ => rfl) hP (fun k a b => by omega) hfi hmono hs hK (fun _ => hr) hV rfl hco.1 hco.2
