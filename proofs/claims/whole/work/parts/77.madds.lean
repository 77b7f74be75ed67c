/-! ===== FacingleafModel.addsPage, addsTried ===== -/
/-- the pages of chapter c behind page p0, in the memory of the model -/
def g_mP (P : pT) (cnt p0 c : Int) (M : qM) : Prop := M 11 0 58 = p0 + cnt ∧ ∀ k, 0 ≤ k → k < cnt → (M 105 0 (p0 + 1 + k) = c ∧ M 106 0 (p0 + 1 + k) = g_bf P 0 k ∧ M 107 0 (p0 + 1 + k) = P 0 k - g_bf P 0 k ∧ M 108 0 (p0 + 1 + k) = g_bf P 1 k ∧ M 109 0 (p0 + 1 + k) = P 1 k - g_bf P 1 k ∧ M 110 0 (p0 + 1 + k) = g_bf P 2 k ∧ M 111 0 (p0 + 1 + k) = P 2 k - g_bf P 2 k ∧ M 112 0 (p0 + 1 + k) = P 3 k ∧ M 113 0 (p0 + 1 + k) = P 4 k) ∧ ∀ r, g_bf P 0 k ≤ r → r < P 0 k → M 92 0 (70 * c + r) = p0 + 1 + k
theorem t195 {d : Nat} {h : qH} (hS : qSe h) {c x2 x3 x4 x5 x6 x7 x8 x9 p : Int} {M : qM} {F : qM → Prop} (hp : M 11 0 58 + 1 = p) (hp2 : 0 ≤ p ∧ p < 400) (hr : (0 ≤ c ∧ c < 3 ∧ 0 ≤ x2 ∧ 0 ≤ x3 ∧ x2 + x3 ≤ 70) ∨ (x3 = 0 ∧ 0 ≤ x2 ∧ x2 ≤ 70))
    (H : ∀ M', (∀ (k : Nat) (m s : Int), ¬ (m = 0 ∧ ((k = 11 ∧ s = 58) ∨ (105 ≤ k ∧ k ≤ 113 ∧ s = p) ∨ (k = 92 ∧ 70 * c + x2 ≤ s ∧ s < 70 * c + (x2 + x3)))) → M' k m s = M k m s) → M' 11 0 58 = p → (M' 105 0 p = c ∧ M' 106 0 p = x2 ∧ M' 107 0 p = x3 ∧ M' 108 0 p = x4 ∧ M' 109 0 p = x5 ∧ M' 110 0 p = x6 ∧ M' 111 0 p = x7 ∧ M' 112 0 p = x8 ∧ M' 113 0 p = x9) → (∀ r, x2 ≤ r → r < x2 + x3 → M' 92 0 (70 * c + r) = p) → F M') : e195 (d + 1) h c x2 x3 x4 x5 x6 x7 x8 x9 M F := by
  refine w195 hS ⟨⟨by omega, by omega⟩, fun M1 f1 => ?_⟩
  have e1 : M1 11 0 58 = p := by rw [f1, qU_s, hp]
  rw [e1]
  refine ⟨hp2, fun M2 f2 => ?_⟩
  have e2 : M2 11 0 58 = p := by rw [f2, qU_k (by decide), e1]
  rw [e2]
  refine ⟨hp2, fun M3 f3 => ?_⟩
  have e3 : M3 11 0 58 = p := by rw [f3, qU_k (by decide), e2]
  rw [e3]
  refine ⟨hp2, fun M4 f4 => ?_⟩
  have e4 : M4 11 0 58 = p := by rw [f4, qU_k (by decide), e3]
  rw [e4]
  refine ⟨hp2, fun M5 f5 => ?_⟩
  have e5 : M5 11 0 58 = p := by rw [f5, qU_k (by decide), e4]
  rw [e5]
  refine ⟨hp2, fun M6 f6 => ?_⟩
  have e6 : M6 11 0 58 = p := by rw [f6, qU_k (by decide), e5]
  rw [e6]
  refine ⟨hp2, fun M7 f7 => ?_⟩
  have e7 : M7 11 0 58 = p := by rw [f7, qU_k (by decide), e6]
  rw [e7]
  refine ⟨hp2, fun M8 f8 => ?_⟩
  have e8 : M8 11 0 58 = p := by rw [f8, qU_k (by decide), e7]
  rw [e8]
  refine ⟨hp2, fun M9 f9 => ?_⟩
  have e9 : M9 11 0 58 = p := by rw [f9, qU_k (by decide), e8]
  rw [e9]
  refine ⟨hp2, fun M10 f10 => ?_⟩
  have e10 : M10 11 0 58 = p := by rw [f10, qU_k (by decide), e9]
  have O10 : ∀ (k : Nat) (m s : Int), ¬ (m = 0 ∧ ((k = 11 ∧ s = 58) ∨ (105 ≤ k ∧ k ≤ 113 ∧ s = p))) → M10 k m s = M k m s := fun k m s q => by
    rw [f10, f9, f8, f7, f6, f5, f4, f3, f2, f1]
    unfold qU
    rw [if_neg (by omega), if_neg (by omega), if_neg (by omega), if_neg (by omega), if_neg (by omega), if_neg (by omega), if_neg (by omega), if_neg (by omega), if_neg (by omega), if_neg (by omega)]
  have v : M10 105 0 p = c ∧ M10 106 0 p = x2 ∧ M10 107 0 p = x3 ∧ M10 108 0 p = x4 ∧ M10 109 0 p = x5 ∧ M10 110 0 p = x6 ∧ M10 111 0 p = x7 ∧ M10 112 0 p = x8 ∧ M10 113 0 p = x9 := by
    rw [f10, f9, f8, f7, f6, f5, f4, f3, f2]
    unfold qU
    simp
  have loop : ∀ (u4 u5 u6 u7 u8 u9 : qV) (M' : qM), (∀ (k : Nat) (m s : Int), ¬ (k = 92 ∧ m = 0 ∧ 70 * c + x2 ≤ s ∧ s < 70 * c + (x2 + x3)) → M' k m s = M10 k m s) → (∀ r, x2 ≤ r → r < x2 → M' 92 0 (70 * c + r) = p) → b195_109 d h F c x2 x3 u4 u5 u6 u7 u8 u9 x2 M' := by
    intro u4 u5 u6 u7 u8 u9
    refine q_upto (P := fun j => x2 ≤ j → ∀ (M' : qM), (∀ (k : Nat) (m s : Int), ¬ (k = 92 ∧ m = 0 ∧ 70 * c + x2 ≤ s ∧ s < 70 * c + (x2 + x3)) → M' k m s = M10 k m s) → (∀ r, x2 ≤ r → r < j → M' 92 0 (70 * c + r) = p) → b195_109 d h F c x2 x3 u4 u5 u6 u7 u8 u9 j M') (a := x2) (b := x2 + x3) (by omega) ?_ ?_ (Int.le_refl _)
    · intro _ M' O' v'
      refine w195_109 hS ⟨⟨by omega, by omega⟩, fun q => absurd q (Int.lt_irrefl _), fun _ => H M' (fun k m s q => by rw [O' k m s (by omega), O10 k m s (by omega)]) (by rw [O' _ _ _ (by omega)]; exact e10) ?_ v'⟩
      rw [O' _ _ _ (by omega), O' _ _ _ (by omega), O' _ _ _ (by omega), O' _ _ _ (by omega), O' _ _ _ (by omega), O' _ _ _ (by omega), O' _ _ _ (by omega), O' _ _ _ (by omega), O' _ _ _ (by omega)]
      exact v
    · intro j j0 j1 ih _ M' O' v'
      have ep : M' 11 0 58 = p := by rw [O' _ _ _ (by omega)]; exact e10
      refine w195_109 hS ⟨⟨by omega, by omega⟩, fun _ => ⟨⟨by omega, by omega⟩, ⟨by omega, by omega⟩, ⟨by omega, by omega⟩, fun M2 f2 => ⟨⟨by omega, by omega⟩, ih (by omega) M2 (fun k m s q => ?_) (fun r r0 r1 => ?_)⟩⟩, fun q => absurd j1 q⟩
      · rw [f2, ← O' k m s q]; unfold qU; rw [if_neg (by omega)]
      · rw [f2, ep]
        by_cases e : r = j
        · rw [e, qU_s]
        · rw [qU_l (by omega)]; exact v' r r0 (by omega)
  exact loop _ _ _ _ _ _ M10 (fun _ _ _ _ => rfl) (fun r a b => by omega)
def fr195 (c a : Int) (p0 : Int) (M M' : qM) : Prop := ∀ (k : Nat) (m s : Int), ¬ (m = 0 ∧ ((k = 11 ∧ (s = 58 ∨ (51 ≤ s ∧ s ≤ 57))) ∨ (105 ≤ k ∧ k ≤ 113 ∧ p0 < s) ∨ (k = 92 ∧ 70 * c + a ≤ s ∧ s < 70 * c + 70) ∨ (k = 116 ∧ s = c))) → M' k m s = M k m s
theorem g_mP_add {P P' : pT} {cnt p0 c : Int} {M M' : qM} (hc : 0 ≤ cnt) (h : g_mP P cnt p0 c M) (hold : ∀ j k, k < cnt → P' j k = P j k) (hmono : ∀ k, 0 ≤ k → k < cnt → P 0 k ≤ g_bf P 0 cnt) (h58 : M' 11 0 58 = p0 + 1 + cnt)
    (O : ∀ (k : Nat) (s : Int), (105 ≤ k ∧ k ≤ 113 ∧ s < p0 + 1 + cnt) ∨ (k = 92 ∧ s < 70 * c + g_bf P 0 cnt) → M' k 0 s = M k 0 s)
    (v : M' 105 0 (p0 + 1 + cnt) = c ∧ M' 106 0 (p0 + 1 + cnt) = g_bf P 0 cnt ∧ M' 107 0 (p0 + 1 + cnt) = P' 0 cnt - g_bf P 0 cnt ∧ M' 108 0 (p0 + 1 + cnt) = g_bf P 1 cnt ∧ M' 109 0 (p0 + 1 + cnt) = P' 1 cnt - g_bf P 1 cnt ∧ M' 110 0 (p0 + 1 + cnt) = g_bf P 2 cnt ∧ M' 111 0 (p0 + 1 + cnt) = P' 2 cnt - g_bf P 2 cnt ∧ M' 112 0 (p0 + 1 + cnt) = P' 3 cnt ∧ M' 113 0 (p0 + 1 + cnt) = P' 4 cnt)
    (vr : ∀ r, g_bf P 0 cnt ≤ r → r < P' 0 cnt → M' 92 0 (70 * c + r) = p0 + 1 + cnt) : g_mP P' (cnt + 1) p0 c M' := by
  refine ⟨by omega, fun k k0 k1 => ?_⟩
  by_cases e : k = cnt
  · subst e
    obtain ⟨f0, f1, f2, _⟩ := g_bf_c hold (k := k) (Int.le_refl _)
    rw [f0, f1, f2]
    exact ⟨v, vr⟩
  · obtain ⟨f0, f1, f2, _⟩ := g_bf_c hold (k := k) (by omega)
    have hk := h.2 k k0 (by omega)
    rw [f0, f1, f2, hold 0 k (by omega), hold 1 k (by omega), hold 2 k (by omega), hold 3 k (by omega), hold 4 k (by omega)]
    rw [O 105 _ (by omega), O 106 _ (by omega), O 107 _ (by omega), O 108 _ (by omega), O 109 _ (by omega), O 110 _ (by omega), O 111 _ (by omega), O 112 _ (by omega), O 113 _ (by omega)]
    refine ⟨hk.1, fun r r0 r1 => ?_⟩
    have := hmono k k0 (by omega)
    rw [O 92 _ (by omega)]
    exact hk.2 r r0 r1
/-- how far the page on the left is filled, for the model -/
def m_y (P : pT) (k : Int) : Int := if k = 0 then 0 else g_x P k
theorem m_y_p {P : pT} {k : Int} (hk : 0 ≤ k) (h0 : 0 < k → 1 ≤ g_bf P 0 k) (hfi : ∀ j, 0 ≤ j → j < k → 1 ≤ P 4 j ∧ P 4 j ≤ 14) : m_x (g_bf P 0 k) (m_y P k) = g_x P k ∧ (0 ≤ m_y P k ∧ m_y P k ≤ 14) ∧ (g_bf P 0 k = 0 → m_y P k = 0) := by
  by_cases e : k = 0
  · subst e
    have e0 : g_bf P 0 0 = 0 := by unfold g_bf; rw [if_pos (Int.le_refl _)]
    have ex : g_x P 0 = 15 := by unfold g_x; rw [if_pos rfl]
    have ey : m_y P 0 = 0 := by unfold m_y; rw [if_pos rfl]
    rw [e0, ex, ey]
    unfold m_x
    rw [if_pos rfl]
    omega
  · have h1 := h0 (by omega)
    have ey : m_y P k = g_x P k := by unfold m_y; rw [if_neg e]
    rw [ey]
    unfold m_x
    rw [if_neg (by omega)]
    refine ⟨rfl, ?_, fun q => by omega⟩
    unfold g_x
    rw [if_neg e]
    split
    · have := hfi (k - 1) (by omega) (by omega); omega
    · omega
theorem t197 {d : Nat} {h : qH} (hS : qSe h) {T P : pT} {c cnt p0 b m : Int} {M : qM} {F : Int → qM → Prop} (hT : g_tab T) (hM : g_mT T c M) (hP : g_mP P cnt p0 c M) (hcnt : 0 ≤ cnt) (hp0 : 0 ≤ p0 ∧ p0 + cnt < 390) (hs : m_ok T (g_bf P 0 cnt) (g_bf P 1 cnt) (g_bf P 2 cnt) (m_y P cnt)) (hmono : ∀ k, 0 ≤ k → k < cnt → P 0 k ≤ g_bf P 0 cnt)
    (hc : g_can T (g_bf P 0 cnt) (g_bf P 1 cnt) (g_bf P 2 cnt) b m) (x1 : M 11 0 51 = m) (x2 : M 11 0 52 = g_lines T (g_bf P 0 cnt) b (g_bf P 1 cnt) m (g_bf P 2 cnt)) (x3 : M 11 0 53 = g_grown T (g_bf P 0 cnt) b (g_bf P 1 cnt) m (g_bf P 2 cnt)) (x4 : M 11 0 54 = g_fill T (g_bf P 0 cnt) b (g_bf P 1 cnt) m (g_bf P 2 cnt)) (hx5 : 0 ≤ M 11 0 55 ∧ M 11 0 55 ≤ 1000) (hco : 0 ≤ M 116 0 c ∧ M 116 0 c ≤ 1000000)
    (H : ∀ M', fr195 c (g_bf P 0 cnt) (p0 + cnt) M M' → (∀ s, 51 ≤ s → s ≤ 57 → M' 11 0 s = M 11 0 s) → g_mP (g_add T P cnt b m) (cnt + 1) p0 c M' → M' 116 0 c = M 116 0 c + M 11 0 55 → F (m_nx T (g_bf P 0 cnt) (g_bf P 1 cnt) (g_bf P 2 cnt) (m_y P cnt) b m) M') : e197 (d + 3) h c (m_st T (g_bf P 0 cnt) (g_bf P 1 cnt) (g_bf P 2 cnt) (m_y P cnt)) (b - g_bf P 0 cnt) M F := by
  have ps := m_st_p hT hs
  have hs1 := hs.1.1
  have h70 := hT.1
  have hc0 := hM.1
  have hcb := hc.1
  refine w197 hS ⟨ps.1.1, t189 hS ps.1.1 (t190 hS hT hM ⟨ps.1.1, by omega⟩ ?_)⟩
  rw [ps.2.1, ps.2.2.1, ps.2.2.2.1, x1, x2, x3, x4]
  refine t195 hS (p := p0 + 1 + cnt) (by rw [hP.1]; omega) ⟨by omega, by omega⟩ (Or.inl ⟨hc0.1, hc0.2, hs1.1, by omega, by omega⟩) (fun M1 O1 y58 yv yr => ?_)
  have e55 : M1 11 0 55 = M 11 0 55 := O1 _ _ _ (by omega)
  have e116 : M1 116 0 c = M 116 0 c := O1 _ _ _ (by omega)
  rw [e55, e116]
  refine ⟨hc0, ⟨by omega, by omega⟩, hc0, fun M2 f2 => ⟨⟨by omega, by omega⟩, ?_⟩⟩
  have O2 : ∀ (k : Nat) (m s : Int), ¬ (k = 116 ∧ m = 0 ∧ s = c) → M2 k m s = M1 k m s := fun k m s q => by rw [f2]; unfold qU; rw [if_neg q]
  rw [show g_bf P 0 cnt + (b - g_bf P 0 cnt) = b by omega]
  have hM2 : g_mT T c M2 := g_mT_fr hM (fun k m s q => by rw [O2 k m s (by omega), O1 k m s (by omega)])
  have sc : ∀ s, 51 ≤ s → s ≤ 57 → M2 11 0 s = M 11 0 s := fun s a b => by rw [O2 _ _ _ (by omega), O1 _ _ _ (by omega)]
  refine t191 hS hT hM2 hs hc (by rw [sc _ (by decide) (by decide)]; exact x1) (by rw [sc _ (by decide) (by decide)]; exact x2) (by rw [sc _ (by decide) (by decide)]; exact x4) ?_
  have hap := g_ap_c (P := P) (c := cnt) (a0 := b) (a1 := g_bf P 1 cnt + m) (a2 := g_bf P 2 cnt + g_lines T (g_bf P 0 cnt) b (g_bf P 1 cnt) m (g_bf P 2 cnt)) (a3 := g_grown T (g_bf P 0 cnt) b (g_bf P 1 cnt) m (g_bf P 2 cnt)) (a4 := g_fill T (g_bf P 0 cnt) b (g_bf P 1 cnt) m (g_bf P 2 cnt))
  have hap' : g_add T P cnt b m 0 cnt = b ∧ g_add T P cnt b m 1 cnt = g_bf P 1 cnt + m ∧ g_add T P cnt b m 2 cnt = g_bf P 2 cnt + g_lines T (g_bf P 0 cnt) b (g_bf P 1 cnt) m (g_bf P 2 cnt) ∧ g_add T P cnt b m 3 cnt = g_grown T (g_bf P 0 cnt) b (g_bf P 1 cnt) m (g_bf P 2 cnt) ∧ g_add T P cnt b m 4 cnt = g_fill T (g_bf P 0 cnt) b (g_bf P 1 cnt) m (g_bf P 2 cnt) := hap
  refine H M2 (fun k m s q => by rw [O2 k m s (by omega), O1 k m s (by omega)]) sc (g_mP_add hcnt hP (fun j k hk => g_ap_o (by omega)) hmono (by rw [O2 _ _ _ (by omega), y58]) (fun k s q => by rw [O2 _ _ _ (by omega), O1 _ _ _ (by omega)]) ?_ (fun r r0 r1 => ?_)) (by rw [f2, qU_s])
  · rw [hap'.1, hap'.2.1, hap'.2.2.1, hap'.2.2.2.1, hap'.2.2.2.2, O2 _ _ _ (by omega), O2 _ _ _ (by omega), O2 _ _ _ (by omega), O2 _ _ _ (by omega), O2 _ _ _ (by omega), O2 _ _ _ (by omega), O2 _ _ _ (by omega), O2 _ _ _ (by omega), O2 _ _ _ (by omega)]
    refine ⟨yv.1, yv.2.1, yv.2.2.1, yv.2.2.2.1, ?_, yv.2.2.2.2.2.1, ?_, yv.2.2.2.2.2.2.2.1, yv.2.2.2.2.2.2.2.2⟩
    · rw [yv.2.2.2.2.1]; omega
    · rw [yv.2.2.2.2.2.2.1]; omega
  · rw [hap'.1] at r1
    rw [O2 _ _ _ (by omega)]
    exact yr r r0 (by omega)
