/-! ===== the law's pages without rows; the pages of the best way ===== -/
def k_fq (c p0 nc : Int) (M M' : qM) : Prop := (∀ (k : Nat) (o s : Int), ¬ (89 ≤ k ∧ k ≤ 95) → ¬ (k = 97 ∧ o = nc) → ¬ (o = 0 ∧ ((k = 76 ∧ (s = 6 ∨ s = 13 + c ∨ s = 16 + c ∨ (29 ≤ s ∧ s ≤ 32))) ∨ ((k = 74 ∨ k = 75) ∧ p0 < s) ∨ (k = 71 ∧ 20 * c ≤ s ∧ s < 20 * c + 20))) → M' k o s = M k o s) ∧ ∀ s, 20 * c ≤ s → s < 20 * c + 20 → M' 71 0 s % 16384 = M 71 0 s % 16384 ∧ (0 ≤ M 71 0 s ∧ M 71 0 s ≤ 2147483647 → 0 ≤ M' 71 0 s ∧ M' 71 0 s ≤ 2147483647)
theorem k_fq_y {c p0 p1 nc : Int} {M M1 M2 : qM} (h : k_fq c p0 nc M M1) (h' : k_fy c p1 M1 M2) (hp : p0 ≤ p1) : k_fq c p0 nc M M2 := ⟨fun k o s a b q => by rw [h'.1 k o s (fun z => q ⟨z.1, by omega⟩), h.1 k o s a b q], fun s a b => ⟨by rw [(h'.2 s a b).1, (h.2 s a b).1], fun z => (h'.2 s a b).2 ((h.2 s a b).2 z)⟩⟩
theorem k_fq_q {c p0 p1 nc : Int} {M M1 M2 : qM} (h : k_fq c p0 nc M M1) (h' : k_fq c p1 nc M1 M2) (hp : p0 ≤ p1) : k_fq c p0 nc M M2 := ⟨fun k o s a b q => by rw [h'.1 k o s a b (fun z => q ⟨z.1, by omega⟩), h.1 k o s a b q], fun s a b => ⟨by rw [(h'.2 s a b).1, (h.2 s a b).1], fun z => (h'.2 s a b).2 ((h.2 s a b).2 z)⟩⟩
theorem k_fy_q {c p0 nc : Int} {M M1 : qM} (h : k_fy c p0 M M1) : k_fq c p0 nc M M1 := ⟨fun k o s _ _ q => h.1 k o s (fun z => q ⟨z.1, by omega⟩), h.2⟩
section
variable {d : Nat} {h : qH} {f : Int → qH → qM → Prop} {A : pA} {cnt c D sn p0 nc : Int}
/-- the floats of a page without rows -/
theorem k_929 (hS : qSe h) {f0 sh rows : Int} {M : qM} (hK : k_ch A cnt c D M) (hf : k_flt A cnt c M) (hn : k_cn A cnt c M) (h0 : 0 ≤ f0 ∧ f0 ≤ p_SF A cnt) (u1 u2 u4 u9 u10 u11 u12 u13 u14 u16 u19 u20 u21 : qV)
    (H : ∀ u24 u25 : qV, b205_981 d h f u1 u2 u4 c u9 u10 u11 u12 u13 u14 rows u16 f0 sh u19 u20 u21 (p_hi A cnt (g_bF (p_T A cnt D) f0) - p_hi A cnt f0) (g_bF (p_T A cnt D) f0) u24 u25 M) (u24 u25 : qV) : b205_929 d h f u1 u2 u4 c u9 u10 u11 u12 u13 u14 rows u16 f0 sh u19 u20 u21 0 f0 u24 u25 M := by
  obtain ⟨hA, hD, ⟨m2, m19⟩, hr, hi, hw⟩ := id hK
  have hT := p_T_tab hA.2.2.2.1 hD
  have c3 := hA.1
  have T8 := p_T_8 (A := A) (cnt := cnt) (D := D)
  have F4 := hT.2.2.1
  rw [T8.2.2.1] at F4
  have e4 : ∀ r, p_T A cnt D 4 r = p_hi A cnt r := fun _ => rfl
  have hm := hT.2.2.2.2.2.2.2.2.1
  have loop : ∀ (t : Nat) (g us : Int) (u24 u25 : qV), p_SF A cnt - g ≤ t → (f0 ≤ g ∧ g ≤ p_SF A cnt) → us = p_hi A cnt g - p_hi A cnt f0 → us ≤ D → b205_929 d h f u1 u2 u4 c u9 u10 u11 u12 u13 u14 rows u16 f0 sh u19 u20 u21 us g u24 u25 M := by
    intro t
    induction t with
    | zero =>
      intro g us u24 u25 ht hg hus hle
      refine w205_929 hS ⟨⟨by omega, by omega⟩, ⟨by omega, by omega⟩, ?_⟩
      rw [hn.1]
      refine ⟨fun q => absurd q (by omega), fun _ => ?_⟩
      have e := g_bF_u hT (f := f0) (g := g) (by rw [T8.2.2.1]; exact h0) (by rw [T8.2.2.1]; exact hg) (by rw [e4, e4, T8.2.1]; omega) (Or.inl (by rw [T8.2.2.1]; omega))
      rw [hus, e]
      exact H _ _
    | succ t ih =>
      intro g us u24 u25 ht hg hus hle
      refine w205_929 hS ⟨⟨by omega, by omega⟩, ⟨by omega, by omega⟩, ?_⟩
      rw [hn.1]
      refine ⟨fun lt => ?_, fun ge => ?_⟩
      · have fv := p_fv_bd hA.2.2.2.1 (k := g) ⟨by omega, lt⟩
        have st : p_hi A cnt (g + 1) = p_hi A cnt g + p_fv A cnt g := p_sum_s (by omega)
        have lo := hm f0 g h0.1 hg.1 (by rw [T8.2.2.1]; exact hg.2)
        rw [e4, e4] at lo
        refine L199 hS hA hw hf ⟨by omega, lt⟩ ⟨⟨by omega, by omega⟩, ?_⟩
        rw [m2]
        refine ⟨fun le => L199 hS hA hw hf ⟨by omega, lt⟩ ⟨⟨by omega, by omega⟩, ⟨by omega, by omega⟩, ih (g + 1) _ _ _ (by omega) ⟨by omega, by omega⟩ (by rw [st]; omega) le⟩, fun nle => ?_⟩
        have e := g_bF_u hT (f := f0) (g := g) (by rw [T8.2.2.1]; exact h0) (by rw [T8.2.2.1]; exact hg) (by rw [e4, e4, T8.2.1]; omega) (Or.inr (by rw [e4, e4, T8.2.1, st]; omega))
        rw [hus, e]
        exact H _ _
      · have e := g_bF_u hT (f := f0) (g := g) (by rw [T8.2.2.1]; exact h0) (by rw [T8.2.2.1]; exact hg) (by rw [e4, e4, T8.2.1]; omega) (Or.inl (by rw [T8.2.2.1]; omega))
        rw [hus, e]
        exact H _ _
  exact loop _ f0 0 u24 u25 (Int.self_le_toNat _) ⟨Int.le_refl _, h0.2⟩ (by omega) (by omega)
/-- the pages without rows -/
theorem k_bare (hS : qSe h) {K0 : Int} : ∀ (t : Nat) (k : Int) (P : pT) (M : qM), g_bN (p_T A cnt D) (g_bf P 1 k) (g_bf P 2 k) ≤ t → k_env A cnt c D sn M → k_P P k p0 c M → (0 ≤ p0 ∧ p0 ≤ 42) → 0 ≤ k → (∀ q, 0 ≤ q → q < k → P 0 q ≤ p_SR A cnt) → g_bf P 0 k = p_SR A cnt → (0 ≤ g_bf P 1 k ∧ g_bf P 1 k ≤ p_SF A cnt) → (0 ≤ g_bf P 2 k ∧ g_bf P 2 k ≤ p_SN A cnt) → k + g_bN (p_T A cnt D) (g_bf P 1 k) (g_bf P 2 k) ≤ 19 → M 76 0 (16 + c) + 5 * g_bN (p_T A cnt D) (g_bf P 1 k) (g_bf P 2 k) = K0 → (0 ≤ M 76 0 (16 + c) ∧ K0 ≤ 1000000) →
    (∀ M' P' ct, k_fq c p0 nc M M' → k_P P' ct p0 c M' → (∀ j q, q < k → P' j q = P j q) → (k ≤ ct ∧ ct ≤ k + g_bN (p_T A cnt D) (g_bf P 1 k) (g_bf P 2 k)) → (∀ q, k ≤ q → q < ct → g_pZ (p_T A cnt D) P' q) → (∀ q, k ≤ q → q ≤ ct → g_bf P' 0 q = p_SR A cnt) → g_bf P' 1 ct = p_SF A cnt → g_bf P' 2 ct = p_SN A cnt → M' 76 0 (16 + c) = K0 → M' 76 0 (13 + c) = p0 + ct → f 1 h M') → ∀ u1 u2 u4 u9 u10 u11 u12 u13 u14 u16 u19 u20 u21 u22 u23 u24 u25 : qV, b205_896 d h f u1 u2 u4 c u9 u10 u11 u12 u13 u14 (p_SR A cnt) u16 (g_bf P 1 k) (g_bf P 2 k) u19 u20 u21 u22 u23 u24 u25 M := by
  intro t
  induction t with
  | zero =>
    intro k P M ht env hP hp0 k0 hup hb hf hn hct hv hvb H u1 u2 u4 u9 u10 u11 u12 u13 u14 u16 u19 u20 u21 u22 u23 u24 u25
    obtain ⟨hch, hss, hfl, hcn⟩ := id env
    obtain ⟨hA, hD, ⟨m2, m19⟩, hr, hi, hw⟩ := id hch
    have hT := p_T_tab hA.2.2.2.1 hD
    have c3 := hA.1
    have T8 := p_T_8 (A := A) (cnt := cnt) (D := D)
    have bN := g_bN_s hT (f := g_bf P 1 k) (n := g_bf P 2 k) (by rw [T8.2.2.1]; exact hf) (by rw [T8.2.2.2]; exact hn)
    rw [T8.2.2.1, T8.2.2.2] at bN
    have fin : ¬ (g_bf P 1 k < p_SF A cnt ∨ g_bf P 2 k < p_SN A cnt) := fun z => by
      have a := bN.2.1 z
      have go := g_b_go hT (f := g_bf P 1 k) (n := g_bf P 2 k) (by rw [T8.2.2.1]; exact hf) (by rw [T8.2.2.2]; exact hn)
      have bp := g_bF_p hT (f := g_bf P 1 k) (by rw [T8.2.2.1]; exact hf)
      have b2 := (g_bN_s hT (f := g_bF (p_T A cnt D) (g_bf P 1 k)) (n := g_bf P 2 k + g_bL (p_T A cnt D) (g_bf P 1 k) (g_bf P 2 k)) ⟨by omega, bp.1.2⟩ ⟨by omega, go.1.2⟩).1
      omega
    refine w205_896 hS ⟨⟨by omega, by omega⟩, ⟨by omega, by omega⟩, ?_⟩
    rw [hcn.1, hcn.2]
    refine ⟨fun z => absurd (Or.inl z) fin, fun z1 => ⟨⟨by omega, by omega⟩, ⟨by omega, by omega⟩, fun z => absurd (Or.inr z) fin, fun z2 => ⟨⟨by omega, by omega⟩, ⟨by omega, by omega⟩, fun M1 f1 => ?_⟩⟩⟩
    have O1 : ∀ (a : Nat) (o s : Int), ¬ (a = 76 ∧ o = 0 ∧ s = 13 + c) → M1 a o s = M a o s := fun a o s z => by rw [f1]; unfold qU; rw [if_neg z]
    refine H M1 P k ⟨fun a o s _ _ q => O1 a o s (fun z => q ⟨z.2.1, Or.inl ⟨z.1, Or.inr (Or.inl z.2.2)⟩⟩), fun s _ _ => by rw [O1 _ _ _ (by omega)]; exact ⟨rfl, fun z => z⟩⟩ (k_P_fr hP (fun a s q => O1 a 0 s (by omega))) (fun _ _ _ => rfl) ⟨Int.le_refl _, by omega⟩ (fun q a b => by omega) (fun q a b => by rw [show q = k by omega]; exact hb) (by omega) (by omega) (by rw [O1 _ _ _ (by omega)]; have := bN.2.2 fin; omega) (by rw [f1, qU_s]; exact hP.1)
  | succ t ih =>
    intro k P M ht env hP hp0 k0 hup hb hf hn hct hv hvb H u1 u2 u4 u9 u10 u11 u12 u13 u14 u16 u19 u20 u21 u22 u23 u24 u25
    obtain ⟨hch, hss, hfl, hcn⟩ := id env
    obtain ⟨hA, hD, ⟨m2, m19⟩, hr, hi, hw⟩ := id hch
    have hT := p_T_tab hA.2.2.2.1 hD
    have c3 := hA.1
    have s16 := hA.2.2.2.2
    have T8 := p_T_8 (A := A) (cnt := cnt) (D := D)
    have F4 := hT.2.2.1
    rw [T8.2.2.1] at F4
    have N12 := hT.2.2.2.1
    rw [T8.2.2.2] at N12
    have bN := g_bN_s hT (f := g_bf P 1 k) (n := g_bf P 2 k) (by rw [T8.2.2.1]; exact hf) (by rw [T8.2.2.2]; exact hn)
    rw [T8.2.2.1, T8.2.2.2] at bN
    have go := g_b_go hT (f := g_bf P 1 k) (n := g_bf P 2 k) (by rw [T8.2.2.1]; exact hf) (by rw [T8.2.2.2]; exact hn)
    rw [T8.2.2.2] at go
    have bp := g_bF_p hT (f := g_bf P 1 k) (by rw [T8.2.2.1]; exact hf)
    rw [T8.2.2.1] at bp
    have e4 : ∀ r, p_T A cnt D 4 r = p_hi A cnt r := fun _ => rfl
    have hR0 : 0 ≤ p_SR A cnt := by have := hT.1.1; rw [T8.1] at this; exact this
    by_cases more : g_bf P 1 k < p_SF A cnt ∨ g_bf P 2 k < p_SN A cnt
    · have b2 := (g_bN_s hT (f := g_bF (p_T A cnt D) (g_bf P 1 k)) (n := g_bf P 2 k + g_bL (p_T A cnt D) (g_bf P 1 k) (g_bf P 2 k)) (by rw [T8.2.2.1]; exact ⟨by omega, bp.1.2⟩) (by rw [T8.2.2.2]; exact ⟨by omega, go.1.2⟩)).1
      have b3 := bN.2.1 more
      have lo := hT.2.2.2.2.2.2.2.2.1 (g_bf P 1 k) (g_bF (p_T A cnt D) (g_bf P 1 k)) hf.1 bp.1.1 (by rw [T8.2.2.1]; exact bp.1.2)
      have bp2 := bp.2.1
      rw [e4, e4, T8.2.1] at bp2
      rw [e4, e4] at lo
      have page : ∀ (u1 u2 u4 u9 u10 u11 u12 u13 u14 u16 u19 u20 u21 u24 u25 : qV), b205_929 d h f u1 u2 u4 c u9 u10 u11 u12 u13 u14 (p_SR A cnt) u16 (g_bf P 1 k) (g_bf P 2 k) u19 u20 u21 0 (g_bf P 1 k) u24 u25 M := by
        intro u1 u2 u4 u9 u10 u11 u12 u13 u14 u16 u19 u20 u21 u24 u25
        refine k_929 hS hch hfl hcn hf _ _ _ _ _ _ _ _ _ _ _ _ _ (fun u24 u25 => w205_981 hS ?_) u24 u25
        rw [m2, hcn.2]
        refine ⟨⟨by omega, by omega⟩, fun _ => ⟨⟨by omega, by omega⟩, ⟨by omega, by omega⟩, ⟨by omega, by omega⟩, ⟨by omega, by omega⟩, ⟨by omega, by omega⟩, fun _ => ⟨⟨by omega, by omega⟩, ⟨by omega, by omega⟩, by omega, by omega⟩, fun _ => ⟨⟨by omega, by omega⟩, by omega, by omega⟩⟩, fun ln hln => ?_⟩
        have eln : ln = g_bL (p_T A cnt D) (g_bf P 1 k) (g_bf P 2 k) := by
          rw [hln]
          unfold g_bL g_bR
          rw [e4, e4, T8.2.1, T8.2.2.2]
          (repeat' split) <;> omega
        rw [eln]
        refine ⟨⟨by omega, by omega⟩, fun _ => ⟨by omega, by omega⟩, fun fi hfi => ?_⟩
        have efi : p_hi A cnt (g_bF (p_T A cnt D) (g_bf P 1 k)) - p_hi A cnt (g_bf P 1 k) + fi = g_bZ (p_T A cnt D) (g_bf P 1 k) (g_bf P 2 k) := by rw [hfi]; rfl
        rw [efi]
        have h6 := hP.1
        refine ⟨⟨by omega, by omega⟩, L203 hS ⟨by omega, by omega⟩ ⟨hR0, by omega⟩ ⟨by omega, by omega⟩ ⟨by omega, by omega⟩ ⟨by omega, by omega⟩ ⟨by omega, by omega⟩ ⟨by omega, by omega⟩ ⟨by omega, by omega⟩ ⟨by omega, by omega⟩ (fun M1 O1 v6 v74 v75 => ⟨⟨by omega, by omega⟩, ⟨by omega, by omega⟩, ?_⟩)⟩
        have w16 : M1 76 0 (16 + c) = M 76 0 (16 + c) := O1 _ _ _ (by omega) (by omega)
        rw [w16]
        refine ⟨⟨by omega, by omega⟩, ⟨by omega, by omega⟩, fun M2 f2 => ⟨⟨by omega, by omega⟩, ?_⟩⟩
        have O2 : ∀ (a : Nat) (o s : Int), ¬ (a = 76 ∧ o = 0 ∧ (s = 6 ∨ s = 16 + c)) → ¬ ((a = 74 ∨ a = 75) ∧ o = 0 ∧ s = p0 + 1 + k) → M2 a o s = M a o s := fun a o s z1 z2 => by
          rw [f2]; unfold qU; rw [if_neg (fun z => z1 ⟨z.1, z.2.1, Or.inr z.2.2⟩)]
          exact O1 a o s (fun z => z1 ⟨z.1, z.2.1, Or.inl z.2.2⟩) (fun z => z2 ⟨z.1, z.2.1, by omega⟩)
        have y2 : k_fy c p0 M M2 := ⟨fun a o s q => O2 a o s (fun z => q (by omega)) (fun z => q (by omega)), fun s _ _ => by rw [O2 _ _ _ (by omega) (by omega)]; exact ⟨rfl, fun z => z⟩⟩
        have x6 : M2 76 0 6 = p0 + (k + 1) := by rw [f2, qU_l (by omega), v6]; omega
        have x16 : M2 76 0 (16 + c) = M 76 0 (16 + c) + 5 := by rw [f2, qU_s]
        have x74 : M2 74 0 (p0 + 1 + k) = k_pk c (p_SR A cnt) 0 (g_bf P 1 k) (g_bF (p_T A cnt D) (g_bf P 1 k) - g_bf P 1 k) (g_bf P 2 k) (g_bL (p_T A cnt D) (g_bf P 1 k) (g_bf P 2 k)) 0 := by rw [f2, qU_k (by decide), show p0 + 1 + k = M 76 0 6 + 1 by omega]; exact v74
        have x75 : M2 75 0 (p0 + 1 + k) = g_bZ (p_T A cnt D) (g_bf P 1 k) (g_bf P 2 k) := by rw [f2, qU_k (by decide), show p0 + 1 + k = M 76 0 6 + 1 by omega]; exact v75
        generalize hPn : g_ap P k (p_SR A cnt) (g_bF (p_T A cnt D) (g_bf P 1 k)) (g_bf P 2 k + g_bL (p_T A cnt D) (g_bf P 1 k) (g_bf P 2 k)) 0 (g_bZ (p_T A cnt D) (g_bf P 1 k) (g_bf P 2 k)) = Q
        have hcl : ∀ j q, q < k → Q j q = P j q := fun j q hq => by rw [← hPn]; exact g_ap_o (by omega)
        obtain ⟨b0, b1, b2', _⟩ := g_bf_c hcl (k := k) (Int.le_refl _)
        have ac := g_ap_c (P := P) (c := k) (a0 := p_SR A cnt) (a1 := g_bF (p_T A cnt D) (g_bf P 1 k)) (a2 := g_bf P 2 k + g_bL (p_T A cnt D) (g_bf P 1 k) (g_bf P 2 k)) (a3 := 0) (a4 := g_bZ (p_T A cnt D) (g_bf P 1 k) (g_bf P 2 k))
        rw [hPn] at ac
        have n0 : g_bf Q 0 (k + 1) = p_SR A cnt := (k_bf_s (i := 0) rfl k0).trans ac.1
        have n1 : g_bf Q 1 (k + 1) = g_bF (p_T A cnt D) (g_bf P 1 k) := (k_bf_s (i := 1) rfl k0).trans ac.2.1
        have n2 : g_bf Q 2 (k + 1) = g_bf P 2 k + g_bL (p_T A cnt D) (g_bf P 1 k) (g_bf P 2 k) := (k_bf_s (i := 2) rfl k0).trans ac.2.2.1
        have pz : g_pZ (p_T A cnt D) Q k := by
          refine ⟨?_, ?_⟩
          · rw [b1, b2', T8.2.2.1, T8.2.2.2]; exact more
          · rw [b1, b2', T8.1]; exact ac
        have hPQ : k_P Q (k + 1) p0 c M2 := by
          refine ⟨x6, fun q q0 q1 => ?_⟩
          by_cases eq : q = k
          · subst eq
            rw [b0, b1, b2', ac.1, ac.2.1, ac.2.2.1, ac.2.2.2.1, ac.2.2.2.2, hb, show p_SR A cnt - p_SR A cnt = 0 by omega, show g_bf P 2 q + g_bL (p_T A cnt D) (g_bf P 1 q) (g_bf P 2 q) - g_bf P 2 q = g_bL (p_T A cnt D) (g_bf P 1 q) (g_bf P 2 q) by omega]
            exact ⟨⟨x74, x75⟩, fun r r0 r1 => absurd r1 (by omega)⟩
          · have hq := hP.2 q q0 (by omega)
            obtain ⟨y0, y1, y2', _⟩ := g_bf_c hcl (k := q) (by omega)
            rw [y0, y1, y2', hcl 0 q (by omega), hcl 1 q (by omega), hcl 2 q (by omega), hcl 3 q (by omega), hcl 4 q (by omega)]
            refine ⟨⟨by rw [O2 _ _ _ (by omega) (by omega)]; exact hq.1.1, by rw [O2 _ _ _ (by omega) (by omega)]; exact hq.1.2⟩, fun r r0 r1 => ?_⟩
            rw [O2 _ _ _ (by omega) (by omega)]
            exact hq.2 r r0 r1
        rw [← n1, ← n2]
        refine ih (k + 1) Q M2 (by rw [n1, n2]; omega) (k_env_fy env y2) hPQ hp0 (by omega) (fun q q0 q1 => ?_) n0 (by rw [n1]; omega) (by rw [n2]; omega) (by rw [n1, n2]; omega) (by rw [n1, n2, x16]; omega) (by rw [x16]; omega) (fun M3 P3 ct fq3 hP3 cl3 ct3 pz3 bf3 l1 l2 l3 l4 => H M3 P3 ct (k_fq_q (k_fy_q y2) fq3 (Int.le_refl _)) hP3 (fun j q hq => by rw [cl3 j q (by omega), hcl j q hq]) ⟨by omega, by rw [n1, n2] at ct3; omega⟩ (fun q q0 q1 => ?_) (fun q q0 q1 => ?_) l1 l2 l3 l4) _ _ _ _ _ _ _ _ _ _ _ _ _ _ _ _ _
        · by_cases eq : q = k
          · subst eq; rw [ac.1]; exact Int.le_refl _
          · rw [hcl 0 q (by omega)]; exact hup q q0 (by omega)
        · by_cases eq : q = k
          · subst eq; exact g_pZ_c cl3 (by omega) pz
          · exact pz3 q (by omega) q1
        · by_cases eq : q = k
          · subst eq
            rw [(g_bf_c cl3 (k := q) (by omega)).1, b0]; exact hb
          · exact bf3 q (by omega) q1
      refine w205_896 hS ⟨⟨by omega, by omega⟩, ⟨by omega, by omega⟩, ?_⟩
      rw [hcn.1, hcn.2]
      exact ⟨fun _ => page _ _ _ _ _ _ _ _ _ _ _ _ _ _ _, fun z1 => ⟨⟨by omega, by omega⟩, ⟨by omega, by omega⟩, fun _ => page _ _ _ _ _ _ _ _ _ _ _ _ _ _ _, fun z2 => absurd more (by omega)⟩⟩
    · refine w205_896 hS ⟨⟨by omega, by omega⟩, ⟨by omega, by omega⟩, ?_⟩
      rw [hcn.1, hcn.2]
      refine ⟨fun z => absurd (Or.inl z) more, fun z1 => ⟨⟨by omega, by omega⟩, ⟨by omega, by omega⟩, fun z => absurd (Or.inr z) more, fun z2 => ⟨⟨by omega, by omega⟩, ⟨by omega, by omega⟩, fun M1 f1 => ?_⟩⟩⟩
      have O1 : ∀ (a : Nat) (o s : Int), ¬ (a = 76 ∧ o = 0 ∧ s = 13 + c) → M1 a o s = M a o s := fun a o s z => by rw [f1]; unfold qU; rw [if_neg z]
      refine H M1 P k ⟨fun a o s _ _ q => O1 a o s (fun z => q ⟨z.2.1, Or.inl ⟨z.1, Or.inr (Or.inl z.2.2)⟩⟩), fun s _ _ => by rw [O1 _ _ _ (by omega)]; exact ⟨rfl, fun z => z⟩⟩ (k_P_fr hP (fun a s q => O1 a 0 s (by omega))) (fun _ _ _ => rfl) ⟨Int.le_refl _, by omega⟩ (fun q a b => by omega) (fun q a b => by rw [show q = k by omega]; exact hb) (by omega) (by omega) (by rw [O1 _ _ _ (by omega)]; have := bN.2.2 more; omega) (by rw [f1, qU_s]; exact hP.1)
end
