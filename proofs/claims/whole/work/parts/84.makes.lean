/-! ===== FacingleafModel.makes ===== -/
/-- the pages of a chapter: some are kept, the rest is best -/
def g_made (T : pT) (keep : pT → Int → Prop) (P : pT) (c cost : Int) : Prop := ∃ Pk ck, keep Pk ck ∧ g_some T Pk ck ∧ (g_bf Pk 0 ck < T 8 0) ∧ g_V T g_I (g_bf Pk 0 ck) (g_bf Pk 1 ck) (g_bf Pk 2 ck) (g_x Pk ck) < g_I ∧ g_rest T Pk ck P c ∧ cost = p_sum (g_kc T Pk) ck + g_V T g_I (g_bf Pk 0 ck) (g_bf Pk 1 ck) (g_bf Pk 2 ck) (g_x Pk ck)
/-- there are none -/
def g_none (T : pT) (keep : pT → Int → Prop) : Prop := ∃ Pk ck, keep Pk ck ∧ g_some T Pk ck ∧ (g_bf Pk 0 ck < T 8 0) ∧ ¬ g_V T g_I (g_bf Pk 0 ck) (g_bf Pk 1 ck) (g_bf Pk 2 ck) (g_x Pk ck) < g_I
def fr202m (c p0 : Int) (M M' : qM) : Prop := ∀ (k : Nat) (m s : Int), ¬ (m = 0 ∧ ((k = 11 ∧ 51 ≤ s ∧ s ≤ 58) ∨ (105 ≤ k ∧ k ≤ 113 ∧ p0 < s) ∨ (k = 92 ∧ 70 * c ≤ s ∧ s < 70 * c + 70) ∨ ((k = 114 ∨ k = 115 ∨ k = 116) ∧ s = c) ∨ k = 103 ∨ k = 104 ∨ ((k = 94 ∨ k = 96) ∧ s = c) ∨ (k = 95 ∧ 4 * c ≤ s ∧ s < 4 * c + 4) ∨ ((k = 97 ∨ k = 98) ∧ 12 * c ≤ s ∧ s < 12 * c + 12) ∨ (99 ≤ k ∧ k ≤ 102))) → M' k m s = M k m s
def fr202a (c p0 : Int) (M M' : qM) : Prop := ∀ (k : Nat) (m s : Int), ¬ (m = 0 ∧ ((k = 11 ∧ 51 ≤ s ∧ s ≤ 58) ∨ (105 ≤ k ∧ k ≤ 113 ∧ p0 < s) ∨ (k = 92 ∧ 70 * c ≤ s ∧ s < 70 * c + 70) ∨ ((k = 115 ∨ k = 116) ∧ s = c) ∨ k = 103 ∨ k = 104)) → M' k m s = M k m s
theorem t202_37 {d : Nat} {h : qH} (hS : qSe h) {T P : pT} {c cnt p0 : Int} {M : qM} {F : Int → qM → Prop} (hT : g_tab T) (h67 : T 8 0 ≤ 67) (hM : g_mT T c M) (hP : g_mP P cnt p0 c M) (hp0 : 0 ≤ p0 ∧ p0 ≤ 290) (hso : g_some T P cnt) (ha : g_bf P 0 cnt < T 8 0) (hco : M 116 0 c = p_sum (g_kc T P) cnt) (u2 u4 : qV)
    (H1 : g_V T g_I (g_bf P 0 cnt) (g_bf P 1 cnt) (g_bf P 2 cnt) (g_x P cnt) < g_I → ∀ M' P' c', fr202a c (p0 + cnt) M M' → g_mP P' c' p0 c M' → g_rest T P cnt P' c' → M' 115 0 c = p0 + c' → M' 116 0 c = p_sum (g_kc T P) cnt + g_V T g_I (g_bf P 0 cnt) (g_bf P 1 cnt) (g_bf P 2 cnt) (g_x P cnt) → M' 114 0 c = M 114 0 c → g_mT T c M' → F 1 M')
    (H0 : ¬ g_V T g_I (g_bf P 0 cnt) (g_bf P 1 cnt) (g_bf P 2 cnt) (g_x P cnt) < g_I → ∀ M', fr202a c (p0 + cnt) M M' → F 0 M') : b202_37 d h F c u2 (m_st T (g_bf P 0 cnt) (g_bf P 1 cnt) (g_bf P 2 cnt) (m_y P cnt)) u4 M := by
  have hst' : g_at T (g_bf P 0 cnt) (g_bf P 1 cnt) (g_bf P 2 cnt) := hso.2.1
  have hcs := hso.1
  have yy := m_y_p (P := P) (k := cnt) hcs.1 (fun _ => by omega) hso.2.2.1
  have ok1 : m_ok T (g_bf P 0 cnt) (g_bf P 1 cnt) (g_bf P 2 cnt) (m_y P cnt) := ⟨hst', yy.2.1, yy.2.2⟩
  have hx := g_some_x hso
  have hVV := g_V_I hT (T 8 0 - g_bf P 0 cnt).toNat (g_bf P 0 cnt) (g_bf P 1 cnt) (g_bf P 2 cnt) (g_x P cnt) (by omega) hst' hx
  have e1g : g_I = 268435456 := rfl
  have e2g : m_I = 536870912 := rfl
  have h70 := hT.1
  refine w202_37 hS (t194 hS hT h67 hM ok1 ha (fun M1 O1 r1 k1 => ?_))
  rw [yy.1]
  have hM1 : g_mT T c M1 := g_mT_fr hM (fun k m s q => O1 k m s (by omega) (by omega))
  have hP1 : g_mP P cnt p0 c M1 := ⟨by rw [O1 _ _ _ (by omega) (by omega)]; exact hP.1, fun q a b => by
    have := hP.2 q a b
    rw [O1 _ _ _ (by omega) (by omega), O1 _ _ _ (by omega) (by omega), O1 _ _ _ (by omega) (by omega), O1 _ _ _ (by omega) (by omega), O1 _ _ _ (by omega) (by omega), O1 _ _ _ (by omega) (by omega), O1 _ _ _ (by omega) (by omega), O1 _ _ _ (by omega) (by omega), O1 _ _ _ (by omega) (by omega)]
    exact ⟨this.1, fun r r0 r1 => by rw [O1 _ _ _ (by omega) (by omega)]; exact this.2 r r0 r1⟩⟩
  have t1 : M1 116 0 c = p_sum (g_kc T P) cnt := by rw [O1 _ _ _ (by omega) (by omega)]; exact hco
  refine ⟨fun hv => ?_, fun hv => H0 (by omega) M1 (fun k m s q => O1 k m s (by omega) (by omega))⟩
  have hVg : g_V T g_I (g_bf P 0 cnt) (g_bf P 1 cnt) (g_bf P 2 cnt) (g_x P cnt) < g_I := by omega
  refine t202r hS hT h67 hM1 hP1 hcs hp0 hso.2.1 ha hso.2.2.1 hso.2.2.2.1 k1 r1 hVg (by rw [t1]; exact hso.2.2.2.2) u2 _ (fun M2 P2 c2 O2 l1 l2 l3 l4 => H1 hVg M2 P2 c2 (fun k m s q => by rw [O2 k m s (by omega), O1 k m s (by omega) (by omega)]) l1 l2 l3 (by rw [l4, t1]) (by rw [O2 _ _ _ (by omega), O1 _ _ _ (by omega) (by omega)]) (g_mT_fr hM1 (fun k m s q => O2 k m s (by omega))))
/-- a chapter's pages, in the model; kp: what is kept, if that is wanted -/
theorem t202 {d : Nat} {h : qH} (hS : qSe h) {A : pA} {cnt D c p0 b : Int} {O P : pT} {wo co q0 : Int} {M : qM} {F : Int → qM → Prop} (hA : p_okB A cnt) (hD : 8 ≤ D ∧ D ≤ 14) (hc : 0 ≤ c ∧ c < 3) (hcnt : 0 < cnt) (hrep : ∀ i, 0 ≤ i → i < cnt → p_mrep A M c i) (hb81 : ∀ k, 0 ≤ M 81 0 k ∧ M 81 0 k ≤ 1000) (hR : p_mR A c (p_SR A cnt) M) (hD2 : M 11 0 2 = D) (hp : M 11 0 58 = p0) (hp0 : 0 ≤ p0 ∧ p0 ≤ 290)
    (hold : b ≠ 0 → M 11 0 73 ≠ 0 → m_old M c O wo co q0 ∧ g_old O wo ∨ M 118 0 c ≠ p0 + 1) (hco : co ≤ 100)
    (hit : ∀ r, 0 ≤ r → r < 70 → -1000 ≤ M 88 0 (70 * c + r) ∧ M 88 0 (70 * c + r) ≤ 1000)
    (hfl : b ≠ 0 → ∀ k, 0 ≤ k → k < wo - 1 → (∀ r, 0 ≤ r → r < O 0 k → m_srow M c r) → O 1 k ≤ p_fl A (O 0 k) ∧ O 1 k ≤ g_bf O 1 k + 2 ∧ O 0 k < p_SR A cnt)
    (H1 : ∀ M' P' c', fr202m c p0 M M' → g_mP P' c' p0 c M' → g_made (p_T A cnt D) (if b = 0 then fun _ ck => ck = 0 else g_keepP (p_T A cnt D) O (m_srow M c) wo (M 11 0 73 ≠ 0 ∧ M 11 0 75 = M 11 0 1 ∧ M 11 0 76 = M 11 0 2 ∧ M 118 0 c = p0 + 1)) P' c' (M' 116 0 c) → M' 114 0 c = p0 + 1 → M' 115 0 c = p0 + c' → p_mw A c cnt 0 M' → p_mS A (p_SR A cnt) M' → F 1 M')
    (H0 : g_none (p_T A cnt D) (if b = 0 then fun _ ck => ck = 0 else g_keepP (p_T A cnt D) O (m_srow M c) wo (M 11 0 73 ≠ 0 ∧ M 11 0 75 = M 11 0 1 ∧ M 11 0 76 = M 11 0 2 ∧ M 118 0 c = p0 + 1)) → ∀ M', fr202m c p0 M M' → F 0 M') : e202 (d + 6) h c b M F := by
  have hT := p_T_tab (D := D) hA hD
  have h67 : (p_T A cnt D) 8 0 ≤ 67 := hA.2.2
  have hRpos : 0 < p_SR A cnt := by
    have h6 := p_okA_6 hA.1 (i := 0) ⟨by omega, hcnt⟩
    have s := p_SR_s (A := A) (i := 0) (by omega)
    have l := p_SR_le hA.1 (i := 0 + 1) ⟨by omega, by omega⟩
    have z : p_SR A 0 = 0 := rfl
    omega
  refine w202 hS (t181 hS hA.1 hc (fun i w a1 a2 a3 a4 => (hrep i a1 a2).2.2.2.2.2 w a3 a4) hR (fun M1 O1 s1 w1 => ?_))
  have hR1 : p_mR A c (p_SR A cnt) M1 := ⟨by rw [O1 _ _ _ (by omega)]; exact hR.1, fun q a b => by
    have := hR.2 q a b
    rw [O1 _ _ _ (by omega), O1 _ _ _ (by omega), O1 _ _ _ (by omega), O1 _ _ _ (by omega)]
    exact ⟨this.1, this.2.1, this.2.2.1, this.2.2.2.1, fun w x y => by rw [O1 _ _ _ (by omega)]; exact this.2.2.2.2 w x y⟩⟩
  have rep1 : ∀ i, 0 ≤ i → i < cnt → p_mrep A M1 c i := fun i a b => by
    obtain ⟨r1, r2, r3, r4, r5, r6⟩ := hrep i a b
    exact ⟨by rw [O1 _ _ _ (by omega)]; exact r1, by rw [O1 _ _ _ (by omega)]; exact r2, fun k => by rw [O1 _ _ _ (by omega)]; exact r3 k, by rw [O1 _ _ _ (by omega)]; exact r4, fun s a b k => by rw [O1 _ _ _ (by omega)]; exact r5 s a b k, fun w a b => by rw [O1 _ _ _ (by omega), O1 _ _ _ (by omega)]; exact r6 w a b⟩
  have e58 : M1 11 0 58 = p0 := by rw [O1 _ _ _ (by omega)]; exact hp
  rw [e58]
  refine ⟨⟨by omega, by omega⟩, hc, fun M2 f2 => ⟨hc, fun M3 f3 => ?_⟩⟩
  have O3 : ∀ (k : Nat) (m s : Int), ¬ ((k = 114 ∨ k = 116) ∧ m = 0 ∧ s = c) → M3 k m s = M1 k m s := fun k m s q => by rw [f3, f2]; unfold qU; rw [if_neg (by omega), if_neg (by omega)]
  have hM3 : g_mT (p_T A cnt D) c M3 := by
    refine g_mT_fr (p_T_m hA hc hR1 s1 w1 rep1 (fun k => by rw [O1 _ _ _ (by omega)]; exact hb81 k) (by rw [O1 _ _ _ (by omega)]; exact hD2)) (fun k m s q => O3 k m s (by omega))
  have c114 : M3 114 0 c = p0 + 1 := by rw [f3, qU_k (by decide), f2, qU_s]
  have c116 : M3 116 0 c = 0 := by rw [f3, qU_s]
  have OO : ∀ (k : Nat) (m s : Int), ¬ (m = 0 ∧ ((k = 114 ∨ k = 116) ∧ s = c ∨ ((k = 94 ∨ k = 96) ∧ s = c) ∨ (k = 95 ∧ 4 * c ≤ s ∧ s < 4 * c + 4) ∨ ((k = 97 ∨ k = 98) ∧ 12 * c ≤ s ∧ s < 12 * c + 12) ∨ (99 ≤ k ∧ k ≤ 102))) → M3 k m s = M k m s := fun k m s q => by rw [O3 k m s (by omega), O1 k m s (by omega)]
  have hP3 : g_mP P 0 p0 c M3 := ⟨by rw [OO _ _ _ (by omega), hp]; omega, fun q a b => by omega⟩
  have sr3 : m_srow M3 c = m_srow M c := by
    funext r
    unfold m_srow
    rw [OO 87 _ _ (by omega), OO 119 _ _ (by omega), OO 88 _ _ (by omega), OO 121 _ _ (by omega), OO 68 _ _ (by omega), OO 120 _ _ (by omega), OO 90 _ _ (by omega), OO 122 _ _ (by omega), OO 91 _ _ (by omega), OO 123 _ _ (by omega)]
  -- behind what is kept
  have behind : ∀ (Q : pT) (ck : Int) (M4 : qM) (u2 u4 : qV), (∀ (k : Nat) (m s : Int), ¬ (m = 0 ∧ ((k = 11 ∧ 51 ≤ s ∧ s ≤ 58) ∨ (105 ≤ k ∧ k ≤ 113 ∧ p0 < s) ∨ (k = 92 ∧ 70 * c ≤ s ∧ s < 70 * c + 70) ∨ (k = 116 ∧ s = c))) → M4 k m s = M3 k m s) → g_mP Q ck p0 c M4 → g_some (p_T A cnt D) Q ck → g_bf Q 0 ck < p_SR A cnt → M4 116 0 c = p_sum (g_kc (p_T A cnt D) Q) ck → (if b = 0 then fun _ ck => ck = 0 else g_keepP (p_T A cnt D) O (m_srow M c) wo (M 11 0 73 ≠ 0 ∧ M 11 0 75 = M 11 0 1 ∧ M 11 0 76 = M 11 0 2 ∧ M 118 0 c = p0 + 1)) Q ck → b202_37 d h F c u2 (m_st (p_T A cnt D) (g_bf Q 0 ck) (g_bf Q 1 ck) (g_bf Q 2 ck) (m_y Q ck)) u4 M4 := by
    intro Q ck M4 u2 u4 O4 hQ hso hlt hcost hkeep
    have hM4 : g_mT (p_T A cnt D) c M4 := g_mT_fr hM3 (fun k m s q => O4 k m s (by omega))
    have hso1 := hso.1
    refine t202_37 hS hT h67 hM4 hQ hp0 hso hlt hcost u2 u4 (fun hv M5 P5 c5 O5 l1 l2 l3 l4 l5 l6 => ?_) (fun hv M5 O5 => H0 ⟨Q, ck, hkeep, hso, hlt, hv⟩ M5 (fun k m s q => ?_))
    · refine H1 M5 P5 c5 (fun k m s q => ?_) l1 ⟨Q, ck, hkeep, hso, hlt, hv, l2, l4⟩ (by rw [l5, O4 _ _ _ (by omega), c114]) l3 ?_ ?_
      · rw [O5 k m s (by omega), O4 k m s (by omega), OO k m s (by omega)]
      · have c5 : ∀ (k : Nat) (s : Int), 94 ≤ k → k ≤ 98 → M5 k 0 s = M1 k 0 s := fun k s a b => by rw [O5 k 0 s (by omega), O4 k 0 s (by omega), O3 k 0 s (by omega)]
        obtain ⟨z1, z2, z3⟩ := w1
        exact ⟨by rw [c5 _ _ (by omega) (by omega)]; exact z1, by rw [c5 _ _ (by omega) (by omega)]; exact z2, fun i w a1 a2 a3 a4 => ⟨fun q => by rw [c5 _ _ (by omega) (by omega)]; exact (z3 i w a1 a2 a3 a4).1 q, fun q k k0 k1 => by rw [c5 _ _ (by omega) (by omega), c5 _ _ (by omega) (by omega)]; exact (z3 i w a1 a2 a3 a4).2 q k k0 k1⟩⟩
      · have c5 : ∀ (k : Nat) (s : Int), 99 ≤ k → k ≤ 102 → M5 k 0 s = M1 k 0 s := fun k s a b => by rw [O5 k 0 s (by omega), O4 k 0 s (by omega), O3 k 0 s (by omega)]
        intro q a b
        have := s1 q a b
        rw [c5 _ _ (by omega) (by omega), c5 _ _ (by omega) (by omega), c5 _ _ (by omega) (by omega), c5 _ _ (by omega) (by omega)]
        exact this
    · rw [O5 k m s (by omega), O4 k m s (by omega), OO k m s (by omega)]
  have st0 : m_st (p_T A cnt D) (g_bf P 0 0) (g_bf P 1 0) (g_bf P 2 0) (m_y P 0) = 0 := by
    have e : ∀ j : Int, g_bf P j 0 = 0 := fun j => by unfold g_bf; rw [if_pos (Int.le_refl _)]
    rw [e, e, e]
    unfold m_st m_y
    rw [if_pos rfl]
    have : (p_T A cnt D) 2 0 = 0 := rfl
    rw [this]; rfl
  have e00 : g_bf P 0 0 = 0 := by unfold g_bf; rw [if_pos (Int.le_refl _)]
  refine ⟨fun hb0 => ?_, fun hb0 => ?_⟩
  · have bb := behind P 0 M3 (.inl b) q_u (fun _ _ _ _ => rfl) hP3 (g_some_0 hT) (by rw [e00]; exact hRpos) (by rw [c116]; rfl) (by rw [if_pos hb0])
    rw [st0] at bb
    exact bb
  · refine t201 hS (O := O) (wo := wo) (co := co) (q0 := q0) hT h67 hM3 hP3 ⟨hp0.1, by omega⟩ c116 c114 (fun h73 => ?_) hco (fun r r0 r1 => by rw [OO _ _ _ (by omega)]; exact hit r r0 r1) (fun k k0 k1 hs => by rw [sr3] at hs; exact hfl hb0 k k0 k1 hs) (fun M4 P4 c4 O4 l1 l2 l3 l4 l5 => ?_)
    · rw [OO _ _ _ (by omega)] at h73
      rcases hold hb0 h73 with ⟨hm, hg⟩ | hno
      · left
        refine ⟨?_, hg⟩
        obtain ⟨o1, o2, o3, o4, o5, o6, o7, o8⟩ := hm
        exact ⟨by rw [OO _ _ _ (by omega)]; exact o1, o2, by rw [OO _ _ _ (by omega)]; exact o3, fun k a b => by rw [OO _ _ _ (by omega), OO _ _ _ (by omega), OO _ _ _ (by omega), OO _ _ _ (by omega)]; exact o4 k a b, fun q => by rw [OO _ _ _ (by omega)] at q ⊢; exact o5 q, o6, fun k a b => by rw [OO _ _ _ (by omega)]; exact o7 k a b, fun q => by rw [OO _ _ _ (by omega)]; exact o8 q⟩
      · right; rw [OO _ _ _ (by omega)]; exact hno
    · refine behind P4 c4 M4 _ _ (fun k m s q => O4 k m s (by omega)) l1 l3 ?_ l4 ?_
      · rcases l5 with l5 | l5
        · exact l5
        · rw [l5]; show g_bf P4 0 0 < p_SR A cnt
          have : g_bf P4 0 0 = 0 := by unfold g_bf; rw [if_pos (Int.le_refl _)]
          omega
      · rw [if_neg hb0]
        rw [sr3, OO 11 0 73 (by omega), OO 11 0 75 (by omega), OO 11 0 1 (by omega), OO 11 0 76 (by omega), OO 11 0 2 (by omega), OO 118 0 c (by omega)] at l2
        exact l2
