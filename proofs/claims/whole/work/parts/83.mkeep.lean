/-! ===== FacingleafModel.isRowSame, addsKept ===== -/
def m_srow (M : qM) (c r : Int) : Prop := r < M 87 0 c ∧ r < M 119 0 c ∧ M 88 0 (70 * c + r) = M 121 0 (70 * c + r) ∧ M 68 0 (10 * c + M 88 0 (70 * c + r)) = M 120 0 (10 * c + M 88 0 (70 * c + r)) ∧ M 90 0 (70 * c + r) = M 122 0 (70 * c + r) ∧ M 91 0 (70 * c + r) = M 123 0 (70 * c + r)
theorem t200 {d : Nat} {h : qH} (hS : qSe h) {c r : Int} {M : qM} {F : Int → qM → Prop} (hc : 0 ≤ c ∧ c < 3) (hr : 0 ≤ r ∧ r < 70) (hi : -1000 ≤ M 88 0 (70 * c + r) ∧ M 88 0 (70 * c + r) ≤ 1000) (hi2 : r < M 87 0 c → 0 ≤ M 88 0 (70 * c + r) ∧ M 88 0 (70 * c + r) < 10)
    (H1 : m_srow M c r → F 1 M) (H0 : ¬ m_srow M c r → F 0 M) : e200 (d + 1) h c r M F := by
  refine w200 hS ⟨⟨by omega, by omega⟩, ⟨by omega, by omega⟩, ⟨by omega, by omega⟩, ⟨by omega, by omega⟩, ⟨by omega, by omega⟩, hc, fun k1 => ⟨hc, fun k2 => ⟨⟨by omega, by omega⟩, ⟨by omega, by omega⟩, fun k3 => ?_⟩⟩, fun x hx => ⟨fun _ => ⟨⟨by omega, by omega⟩, ⟨by omega, by omega⟩, fun _ => ⟨⟨by omega, by omega⟩, by omega, by omega⟩⟩, fun y hy => ?_⟩⟩
  · have := hi2 k1
    exact ⟨⟨by omega, by omega⟩, by omega, by omega⟩
  · by_cases hs : m_srow M c r
    · obtain ⟨s1, s2, s3, s4, s5, s6⟩ := id hs
      rw [if_pos s1, if_pos s2, if_pos s3, if_pos s4] at hx
      rw [hx, if_neg (by decide), if_pos s5, if_pos s6] at hy
      rw [hy]
      exact ⟨Or.inr rfl, H1 hs⟩
    · have hy0 : y = 0 := by
        rw [hy, hx]
        by_cases s1 : r < M 87 0 c
        · rw [if_pos s1]
          by_cases s2 : r < M 119 0 c
          · rw [if_pos s2]
            by_cases s3 : M 88 0 (70 * c + r) = M 121 0 (70 * c + r)
            · rw [if_pos s3]
              by_cases s4 : M 68 0 (10 * c + M 88 0 (70 * c + r)) = M 120 0 (10 * c + M 88 0 (70 * c + r))
              · rw [if_pos s4, if_neg (by decide)]
                by_cases s5 : M 90 0 (70 * c + r) = M 122 0 (70 * c + r)
                · rw [if_pos s5]
                  by_cases s6 : M 91 0 (70 * c + r) = M 123 0 (70 * c + r)
                  · exact absurd ⟨s1, s2, s3, s4, s5, s6⟩ hs
                  · rw [if_neg s6]
                · rw [if_neg s5]
              · rw [if_neg s4, if_pos rfl]
            · rw [if_neg s3, if_pos rfl]
          · rw [if_neg s2, if_pos rfl]
        · rw [if_neg s1, if_pos rfl]
      rw [hy0]
      exact ⟨Or.inl rfl, H0 hs⟩
/-- what was printed of a chapter: pages O behind page q0, in the memory of the model -/
def m_old (M : qM) (c : Int) (O : pT) (wo co q0 : Int) : Prop := (0 ≤ q0 ∧ q0 + co ≤ M 11 0 74 ∧ M 11 0 74 < 400) ∧ (0 ≤ wo ∧ wo ≤ co) ∧ M 118 0 c = q0 + 1 ∧ (∀ k, 0 ≤ k → k < co → M 128 0 (q0 + 1 + k) = c ∧ M 129 0 (q0 + 1 + k) = g_bf O 0 k ∧ M 130 0 (q0 + 1 + k) = O 0 k - g_bf O 0 k ∧ M 132 0 (q0 + 1 + k) = O 1 k - g_bf O 1 k) ∧ (q0 + 1 + co ≤ M 11 0 74 → M 128 0 (q0 + 1 + co) ≠ c) ∧ (∀ k, wo ≤ k → k < co → O 0 k = g_bf O 0 k) ∧ (∀ k, 0 ≤ k → k < wo - 1 → O 0 k < M 119 0 c) ∧ (0 < wo → O 0 (wo - 1) = M 119 0 c)
theorem t201 {d : Nat} {h : qH} (hS : qSe h) {T O P : pT} {c p0 wo co q0 : Int} {M : qM} {F : Int → qM → Prop} (hT : g_tab T) (h67 : T 8 0 ≤ 67) (hM : g_mT T c M) (hP : g_mP P 0 p0 c M) (hp0 : 0 ≤ p0 ∧ p0 ≤ 300) (h116 : M 116 0 c = 0) (hbeg : M 114 0 c = p0 + 1)
    (hold : M 11 0 73 ≠ 0 → m_old M c O wo co q0 ∧ g_old O wo ∨ M 118 0 c ≠ p0 + 1) (hco : co ≤ 100)
    (hit : ∀ r, 0 ≤ r → r < 70 → -1000 ≤ M 88 0 (70 * c + r) ∧ M 88 0 (70 * c + r) ≤ 1000)
    (hfl : ∀ k, 0 ≤ k → k < wo - 1 → (∀ r, 0 ≤ r → r < O 0 k → m_srow M c r) → O 1 k ≤ T 1 (O 0 k) ∧ O 1 k ≤ g_bf O 1 k + 2 ∧ O 0 k < T 8 0)
    (H : ∀ M' P' c', fr195 c 0 p0 M M' → g_mP P' c' p0 c M' → g_keepP T O (m_srow M c) wo (M 11 0 73 ≠ 0 ∧ M 11 0 75 = M 11 0 1 ∧ M 11 0 76 = M 11 0 2 ∧ M 118 0 c = p0 + 1) P' c' → g_some T P' c' → M' 116 0 c = p_sum (g_kc T P') c' → g_bf P' 0 c' < T 8 0 ∨ c' = 0 → F (m_st T (g_bf P' 0 c') (g_bf P' 1 c') (g_bf P' 2 c') (m_y P' c')) M') : e201 (d + 4) h c 0 M F := by
  have h70 := hT.1
  have c0 := hM.1
  have z := hT.2.2.2.2.1
  have st0 : ∀ Q : pT, m_st T (g_bf Q 0 0) (g_bf Q 1 0) (g_bf Q 2 0) (m_y Q 0) = 0 := fun Q => by
    have e : ∀ j : Int, g_bf Q j 0 = 0 := fun j => by unfold g_bf; rw [if_pos (Int.le_refl _)]
    rw [e, e, e]
    unfold m_st m_y
    rw [if_pos rfl, z.2.2.1]
    rfl
  refine w201 hS ⟨fun _ _ _ => ⟨c0, c0⟩, fun g hg => ⟨c0, ?_⟩⟩
  rw [hbeg] at hg
  by_cases on : M 11 0 73 ≠ 0 ∧ M 11 0 75 = M 11 0 1 ∧ M 11 0 76 = M 11 0 2 ∧ M 118 0 c = p0 + 1
  · rw [if_neg on.1, if_pos on.2.1, if_pos on.2.2.1, if_pos on.2.2.2] at hg
    rw [hg]
    rcases hold on.1 with ⟨hmo, hgo⟩ | hno
    · obtain ⟨o1, o2, o3, o4, o5, o6, o7, o8⟩ := hmo
      have eq0 : q0 = p0 := by have := on.2.2.2; omega
      have go := hgo.1
      have loop : ∀ (t : Nat) (k : Int) (Q : pT) (u2 u6 : qV) (M1 : qM), co - k ≤ t → 0 ≤ k → (k = 0 ∨ k ≤ wo - 1) → fr195 c 0 p0 M M1 → g_mP Q k p0 c M1 → (∀ q, 0 ≤ q → q < k → g_kp T O (m_srow M c) Q q ∧ g_pg T Q q (O 0 q) (O 1 q - g_bf O 1 q)) → g_some T Q k → M1 116 0 c = p_sum (g_kc T Q) k → (g_bf Q 0 k < T 8 0 ∨ k = 0) → (g_bf Q 0 k = g_bf O 0 k ∧ g_bf Q 1 k = g_bf O 1 k) → (∀ r, 0 ≤ r → r < g_bf O 0 k → m_srow M c r) → b201_61 d h F c u2 (m_st T (g_bf Q 0 k) (g_bf Q 1 k) (g_bf Q 2 k) (m_y Q k)) 1 (q0 + 1 + k) u6 M1 := by
        intro t
        induction t with
        | zero =>
          intro k Q u2 u6 M1 e0 k0 k1 O1 hQ hkp hso ht1 hlt hsame hall
          have done : F (m_st T (g_bf Q 0 k) (g_bf Q 1 k) (g_bf Q 2 k) (m_y Q k)) M1 := H M1 Q k O1 hQ (Or.inl ⟨on, ⟨k0, k1⟩, hkp, Or.inl (by omega)⟩) hso ht1 hlt
          have hkc : k = co := by omega
          have e74 : M1 11 0 74 = M 11 0 74 := O1 _ _ _ (by omega)
          have e128 : ∀ s, M1 128 0 s = M 128 0 s := fun s => O1 _ _ _ (by omega)
          refine w201_61 hS ⟨fun q => absurd q (by decide), fun _ => ⟨fun q => ⟨⟨by omega, by omega⟩, fun q2 => ?_, fun _ => done⟩, fun _ => done⟩⟩
          exfalso
          rw [e74] at q
          rw [e128, hkc] at q2
          exact o5 (by omega) q2
        | succ t ih =>
          intro k Q u2 u6 M1 e0 k0 k1 O1 hQ hkp hso ht1 hlt hsame hall
          have e74 : M1 11 0 74 = M 11 0 74 := O1 _ _ _ (by omega)
          have ew : ∀ (k : Nat) (s : Int), 117 ≤ k → M1 k 0 s = M k 0 s := fun k s hk => O1 _ _ _ (by omega)
          by_cases hkc : k < co
          · have ok := o4 k k0 hkc
            have stop : (wo - 1 ≤ k ∨ ¬ g_kp T O (m_srow M c) Q k) → ∀ M2, fr195 c 0 p0 M M2 → g_mP Q k p0 c M2 → M2 116 0 c = M1 116 0 c → F (m_st T (g_bf Q 0 k) (g_bf Q 1 k) (g_bf Q 2 k) (m_y Q k)) M2 := fun hst M2 O2 hQ2 t2 => H M2 Q k O2 hQ2 (Or.inl ⟨on, ⟨k0, k1⟩, hkp, hst⟩) hso (by rw [t2]; exact ht1) hlt
            have end8 : (wo - 1 ≤ k ∨ ¬ g_kp T O (m_srow M c) Q k) → ∀ (u2 u4 u6 : qV) M2, fr195 c 0 p0 M M2 → g_mP Q k p0 c M2 → M2 116 0 c = M1 116 0 c → b201_208 d h F c u2 (m_st T (g_bf Q 0 k) (g_bf Q 1 k) (g_bf Q 2 k) (m_y Q k)) u4 (q0 + 1 + k) u6 M2 := fun hst u2 u4 u6 M2 O2 hQ2 t2 => w201_208 hS ⟨⟨by omega, by omega⟩, w201_61 hS ⟨fun _ => stop hst M2 O2 hQ2 t2, fun q => absurd rfl q⟩⟩
            have end76 : (wo - 1 ≤ k ∨ ¬ g_kp T O (m_srow M c) Q k) → ∀ (u2 u6 : qV), b201_176 d h F c u2 (m_st T (g_bf Q 0 k) (g_bf Q 1 k) (g_bf Q 2 k) (m_y Q k)) 0 (q0 + 1 + k) u6 M1 := fun hst u2 u6 => w201_176 hS ⟨fun _ => end8 hst _ _ _ M1 O1 hQ rfl, fun q => absurd rfl q⟩
            refine w201_61 hS ⟨fun q => absurd q (by decide), fun _ => ⟨fun _ => ⟨⟨by omega, by omega⟩, fun _ => ⟨⟨by omega, by omega⟩, fun hpos => ⟨⟨by omega, by omega⟩, ⟨by omega, by omega⟩, ?_⟩, fun g hg => ?_⟩, fun q => absurd (by rw [ew 128 _ (by decide)]; exact ok.1) q⟩, fun q => by rw [e74] at q; omega⟩⟩
            · rw [ew 130 _ (by decide)] at hpos
              rw [ew 129 _ (by decide), ew 130 _ (by decide), ok.2.1, ok.2.2.1]
              rw [ok.2.2.1] at hpos
              have hkw : k < wo := Classical.byContradiction fun z => by have := o6 k (by omega) hkc; omega
              have og := hgo.2 k k0 hkw
              exact ⟨⟨by omega, by omega⟩, c0⟩
            · rw [ew 130 _ (by decide), ew 129 _ (by decide), ew 119 _ (by decide), ok.2.1, ok.2.2.1] at hg
              refine ⟨⟨by omega, by omega⟩, ?_⟩
              rw [ew 129 _ (by decide), ok.2.1]
              by_cases hkw : k < wo - 1
              · have og := hgo.2 k k0 (by omega)
                have o7k := o7 k k0 hkw
                rw [if_neg (by omega), if_pos (by omega)] at hg
                rw [hg]
                have hM1 : g_mT T c M1 := g_mT_fr hM (fun k m s q => O1 k m s (by omega))
                have sr : ∀ r, m_srow M1 c r ↔ m_srow M c r := fun r => by
                  unfold m_srow
                  rw [O1 87 _ _ (by omega), O1 119 _ _ (by omega), O1 88 _ _ (by omega), O1 121 _ _ (by omega), O1 68 _ _ (by omega), O1 120 _ _ (by omega), O1 90 _ _ (by omega), O1 122 _ _ (by omega), O1 91 _ _ (by omega), O1 123 _ _ (by omega)]
                have e12 : M1 129 0 (q0 + 1 + k) + M1 130 0 (q0 + 1 + k) = O 0 k := by rw [ew 129 _ (by decide), ew 130 _ (by decide), ok.2.1, ok.2.2.1]; omega
                refine q_upto (P := fun r => (∀ q, g_bf O 0 k ≤ q → q < r → m_srow M c q) → g_bf O 0 k ≤ r → b201_136 d h F c u2 (m_st T (g_bf Q 0 k) (g_bf Q 1 k) (g_bf Q 2 k) (m_y Q k)) 1 (q0 + 1 + k) r M1) (a := g_bf O 0 k) (b := O 0 k) (by omega) (fun hrows _ => ?_) (fun r r0 r1 ihr hrows _ => ?_) (fun q a b => by omega) (Int.le_refl _)
                · refine w201_136 hS ⟨fun q => absurd q (by decide), fun _ => ⟨⟨by omega, by omega⟩, ⟨by omega, by omega⟩, ?_⟩⟩
                  rw [e12]
                  refine ⟨⟨by omega, by omega⟩, fun q => absurd q (Int.lt_irrefl _), fun _ => w201_176 hS ⟨fun q => absurd q (by decide), fun _ => ⟨⟨by omega, by omega⟩, ⟨by omega, by omega⟩, ?_⟩⟩⟩
                  have hall2 : ∀ r, 0 ≤ r → r < O 0 k → m_srow M c r := fun r a b => by
                    by_cases e : r < g_bf O 0 k
                    · exact hall r a e
                    · exact hrows r (by omega) b
                  have hf := hfl k k0 hkw hall2
                  have hst' : g_at T (g_bf Q 0 k) (g_bf Q 1 k) (g_bf Q 2 k) := hso.2.1
                  have yy := m_y_p (P := Q) (k := k) k0 (fun _ => by have := hso.1; omega) hso.2.2.1
                  have ok1 : m_ok T (g_bf Q 0 k) (g_bf Q 1 k) (g_bf Q 2 k) (m_y Q k) := ⟨hst', yy.2.1, yy.2.2⟩
                  have hx := g_some_x hso
                  have hcs := hso.1
                  rw [ew 130 _ (by decide), ew 132 _ (by decide), ok.2.2.1, ok.2.2.2, ← hsame.1]
                  refine t198 hS hT hM1 ok1 ⟨by omega, by omega⟩ ⟨by omega, by omega⟩ (fun okk M2 O2 x1 x2 x3 x4 x5 => ⟨fun q => absurd q (by decide), fun _ => ⟨⟨by omega, by omega⟩, ?_⟩⟩) (fun nok M2 O2 => ⟨fun _ => ?_, fun q => absurd rfl q⟩)
                  · have hcan : g_can T (g_bf Q 0 k) (g_bf Q 1 k) (g_bf Q 2 k) (O 0 k) (O 1 k - g_bf O 1 k) := ⟨⟨by omega, by omega⟩, ⟨by omega, by omega, by omega⟩, okk⟩
                    have nums := g_nums hT hst' hcan.1 ⟨hcan.2.1.1, hcan.2.1.2.2⟩
                    have nn := nums.2.2.2.2.2 okk
                    have fb := g_far_bd (T := T) (a := g_bf Q 0 k) (b := O 0 k) (f := g_bf Q 1 k) (m := O 1 k - g_bf O 1 k) (n := g_bf Q 2 k) nn.2.2.2.1 hx
                    have hM2 : g_mT T c M2 := g_mT_fr hM1 (fun k m s q => O2 k m s (by omega))
                    have hQ2 : g_mP Q k p0 c M2 := ⟨by rw [O2 _ _ _ (by omega)]; exact hQ.1, fun q a b => by
                      have := hQ.2 q a b
                      rw [O2 _ _ _ (by omega), O2 _ _ _ (by omega), O2 _ _ _ (by omega), O2 _ _ _ (by omega), O2 _ _ _ (by omega), O2 _ _ _ (by omega), O2 _ _ _ (by omega), O2 _ _ _ (by omega), O2 _ _ _ (by omega)]
                      exact ⟨this.1, fun r r0 r1 => by rw [O2 _ _ _ (by omega)]; exact this.2 r r0 r1⟩⟩
                    have e130 : M2 130 0 (q0 + 1 + k) = O 0 k - g_bf Q 0 k := by rw [O2 _ _ _ (by omega), ew 130 _ (by decide), ok.2.2.1, hsame.1]
                    have t116 : M2 116 0 c = p_sum (g_kc T Q) k := by rw [O2 _ _ _ (by omega)]; exact ht1
                    have sk := hso.2.2.2.2
                    rw [yy.1] at x5
                    rw [e130]
                    refine t197 hS hT hM2 hQ2 k0 ⟨hp0.1, by omega⟩ ok1 hso.2.2.2.1 hcan x1 x2 x3 x4 (by rw [x5]; omega) (by rw [t116]; omega) (fun M3 O3 _ hQ3 t3 => ⟨⟨by omega, by omega⟩, ?_⟩)
                    have ss := g_some_s hT hso hcan
                    have hcl : ∀ j q, q < k → g_add T Q k (O 0 k) (O 1 k - g_bf O 1 k) j q = Q j q := fun j q hq => g_ap_o (by omega)
                    have pg := g_add_pg (T := T) (P := Q) (c := k) (b := O 0 k) (m := O 1 k - g_bf O 1 k)
                    obtain ⟨f0, f1, f2, fx⟩ := g_bf_c hcl (k := k) (Int.le_refl _)
                    have pg' := pg
                    unfold g_pg at pg'
                    rw [f0, f1, f2] at pg'
                    have n0 : g_bf (g_add T Q k (O 0 k) (O 1 k - g_bf O 1 k)) 0 (k + 1) = O 0 k := (g_bf_s k0).trans pg'.1
                    have n1 : g_bf (g_add T Q k (O 0 k) (O 1 k - g_bf O 1 k)) 1 (k + 1) = g_bf Q 1 k + (O 1 k - g_bf O 1 k) := (g_bf_s k0).trans pg'.2.1
                    have n2 : g_bf (g_add T Q k (O 0 k) (O 1 k - g_bf O 1 k)) 2 (k + 1) = g_bf Q 2 k + g_lines T (g_bf Q 0 k) (O 0 k) (g_bf Q 1 k) (O 1 k - g_bf O 1 k) (g_bf Q 2 k) := (g_bf_s k0).trans pg'.2.2.1
                    have nx : m_y (g_add T Q k (O 0 k) (O 1 k - g_bf O 1 k)) (k + 1) = g_ahead T (g_bf Q 0 k) (O 0 k) (g_bf Q 1 k) (O 1 k - g_bf O 1 k) (g_bf Q 2 k) (g_x Q k) := by
                      unfold m_y
                      rw [if_neg (by omega), g_x_s k0 (fun q q0 q1 => (ss.1.2.2.1 q q0 (by omega)).1), fx, pg'.2.2.2.2]
                      rfl
                    have enx : m_nx T (g_bf Q 0 k) (g_bf Q 1 k) (g_bf Q 2 k) (m_y Q k) (O 0 k) (O 1 k - g_bf O 1 k) = m_st T (g_bf (g_add T Q k (O 0 k) (O 1 k - g_bf O 1 k)) 0 (k + 1)) (g_bf (g_add T Q k (O 0 k) (O 1 k - g_bf O 1 k)) 1 (k + 1)) (g_bf (g_add T Q k (O 0 k) (O 1 k - g_bf O 1 k)) 2 (k + 1)) (m_y (g_add T Q k (O 0 k) (O 1 k - g_bf O 1 k)) (k + 1)) := by
                      rw [n0, n1, n2, nx]
                      unfold m_nx
                      rw [yy.1]
                    have b0 : g_bf O 0 (k + 1) = O 0 k := g_bf_s k0
                    have b1 : g_bf O 1 (k + 1) = O 1 k := g_bf_s k0
                    rw [enx, show q0 + 1 + k + 1 = q0 + 1 + (k + 1) by omega]
                    refine ih (k + 1) _ _ _ M3 (by omega) (by omega) (Or.inr (by omega)) (fun k' m' s q => by rw [O3 k' m' s (by omega), O2 k' m' s (by omega)]; exact O1 k' m' s q) hQ3 (fun q q0' q1 => ?_) ss.1 (by rw [t3, x5, t116, ss.2.1]) (Or.inl (by rw [n0]; omega)) ⟨by rw [n0, b0], by rw [n1, b1]; omega⟩ (fun r a b => hall2 r a (by rw [b0] at b; exact b))
                    by_cases eq : q = k
                    · subst eq
                      exact ⟨(g_kp_c hcl (Int.le_refl _)).mpr ⟨fun r a b => hrows r a b, hcan⟩, pg⟩
                    · have := hkp q q0' (by omega)
                      exact ⟨(g_kp_c hcl (by omega)).mpr this.1, g_pg_c hcl (by omega) this.2⟩
                  · refine end8 (Or.inr (fun zz => nok zz.2.2.2)) _ _ _ M2 (fun k' m' s q => by rw [O2 k' m' s (by omega)]; exact O1 k' m' s q) ⟨by rw [O2 _ _ _ (by omega)]; exact hQ.1, fun q a b => ?_⟩ (O2 _ _ _ (by omega))
                    have := hQ.2 q a b
                    rw [O2 _ _ _ (by omega), O2 _ _ _ (by omega), O2 _ _ _ (by omega), O2 _ _ _ (by omega), O2 _ _ _ (by omega), O2 _ _ _ (by omega), O2 _ _ _ (by omega), O2 _ _ _ (by omega), O2 _ _ _ (by omega)]
                    exact ⟨this.1, fun r r0 r1 => by rw [O2 _ _ _ (by omega)]; exact this.2 r r0 r1⟩
                · refine w201_136 hS ⟨fun q => absurd q (by decide), fun _ => ⟨⟨by omega, by omega⟩, ⟨by omega, by omega⟩, ?_⟩⟩
                  rw [e12]
                  have hi88 := hit r (by omega) (by omega)
                  refine ⟨⟨by omega, by omega⟩, fun _ => t200 hS c0 ⟨by omega, by omega⟩ (by rw [O1 _ _ _ (by omega)]; exact hi88) (fun hr => by
                    rw [hM1.2.1] at hr
                    exact (hM1.2.2.2.2.2.2.2 r (by omega) hr).1) (fun hs => ⟨⟨by omega, by omega⟩, ihr (fun q q0 q1 => ?_) (by omega)⟩) (fun hs => ⟨⟨by omega, by omega⟩, w201_136 hS ⟨fun _ => end76 (Or.inr (fun zz => hs ((sr r).mpr (zz.1 r r0 r1)))) _ _, fun q => absurd rfl q⟩⟩), fun q => absurd r1 q⟩
                  by_cases eq : q = r
                  · rw [eq]; exact (sr r).mp hs
                  · exact hrows q q0 (by omega)
              · have hg0 : g = 0 := by
                  rw [hg]
                  by_cases h1 : O 0 k - g_bf O 0 k ≤ 0
                  · rw [if_pos h1]
                  · have hkw2 : k < wo := Classical.byContradiction fun z => by have := o6 k (by omega) hkc; omega
                    have hk1 : k = wo - 1 := by omega
                    have := o8 (by omega)
                    rw [← hk1] at this
                    rw [if_neg h1, if_neg (by omega)]
                rw [hg0]
                exact w201_136 hS ⟨fun _ => end76 (Or.inl (by omega)) _ _, fun q => absurd rfl q⟩
          · have done : F (m_st T (g_bf Q 0 k) (g_bf Q 1 k) (g_bf Q 2 k) (m_y Q k)) M1 := H M1 Q k O1 hQ (Or.inl ⟨on, ⟨k0, k1⟩, hkp, Or.inl (by omega)⟩) hso ht1 hlt
            have hkc : k = co := by omega
            refine w201_61 hS ⟨fun q => absurd q (by decide), fun _ => ⟨fun q => ⟨⟨by omega, by omega⟩, fun q2 => ?_, fun _ => done⟩, fun _ => done⟩⟩
            exfalso
            rw [e74] at q
            rw [ew 128 _ (by decide), hkc] at q2
            exact o5 (by omega) q2
      have l0 := loop co.toNat 0 P (.inl 0) q_u M (by omega) (Int.le_refl _) (Or.inl rfl) (fun _ _ _ _ => rfl) hP (fun q a b => by omega) (g_some_0 hT) (by rw [h116]; rfl) (Or.inr rfl) ⟨by unfold g_bf; rw [if_pos (Int.le_refl _), if_pos (Int.le_refl _)], by unfold g_bf; rw [if_pos (Int.le_refl _), if_pos (Int.le_refl _)]⟩ (fun r a b => by unfold g_bf at b; rw [if_pos (Int.le_refl _)] at b; omega)
      rw [st0, show q0 + 1 + 0 = M 118 0 c by omega] at l0
      exact l0
    · exact absurd on.2.2.2 hno
  · have hg0 : g = 0 := by
      rw [hg]
      by_cases k1 : M 11 0 73 = 0
      · rw [if_pos k1]
      · rw [if_neg k1]
        by_cases k2 : M 11 0 75 = M 11 0 1
        · rw [if_pos k2]
          by_cases k3 : M 11 0 76 = M 11 0 2
          · rw [if_pos k3]
            by_cases k4 : M 118 0 c = p0 + 1
            · exact absurd ⟨k1, k2, k3, k4⟩ on
            · rw [if_neg k4]
          · rw [if_neg k3]
        · rw [if_neg k2]
    rw [hg0]
    refine w201_61 hS ⟨fun _ => ?_, fun q => absurd rfl q⟩
    have := H M P 0 (fun _ _ _ _ => rfl) hP (Or.inr ⟨on, rfl⟩) (g_some_0 hT) (by rw [h116]; rfl) (Or.inr rfl)
    rw [st0] at this
    exact this
