/-! ===== pages without rows; a page is laid ===== -/
/-- so many floats and lines a chapter has -/
def k_cn (A : pA) (cnt c : Int) (M : qM) : Prop := M 76 0 (22 + c) = p_SF A cnt ∧ M 76 0 (25 + c) = p_SN A cnt
section
variable {d : Nat} {h : qH} {M : qM} {f : Int → qM → Prop} {A : pA} {cnt c D fl sh : Int}
theorem L202 (hS : qSe h) (hK : k_ch A cnt c D M) (hf : k_flt A cnt c M) (hn : k_cn A cnt c M) (h1 : 0 ≤ fl ∧ fl ≤ p_SF A cnt) (h2 : 0 ≤ sh ∧ sh ≤ p_SN A cnt) (H : f (g_bN (p_T A cnt D) fl sh) M) : e202 (d + 3) h c fl sh M f := by
  obtain ⟨hA, hD, ⟨m2, m19⟩, hr, hi, hw⟩ := id hK
  have hT := p_T_tab hA.2.2.2.1 hD
  have c3 := hA.1
  have T8 := p_T_8 (A := A) (cnt := cnt) (D := D)
  have F4 := hT.2.2.1
  have N12 := hT.2.2.2.1
  have e4 : ∀ r, p_T A cnt D 4 r = p_hi A cnt r := fun _ => rfl
  rw [T8.2.2.1] at F4
  rw [T8.2.2.2] at N12
  have hgh : ∀ a b, 0 ≤ a → a ≤ b → b ≤ p_SF A cnt → p_hi A cnt a + 2 * (b - a) ≤ p_hi A cnt b ∧ p_hi A cnt b ≤ p_hi A cnt a + 9 * (b - a) := fun a b a0 ab b1 => by
    have := hT.2.2.2.2.2.2.2.2.1 a b a0 ab (by rw [T8.2.2.1]; exact b1)
    rw [e4, e4] at this
    exact ⟨this.1, this.2.1⟩
  have main : ∀ (t : Nat) (n fl sh : Int) (u4 u5 u9 : qV), p_SF A cnt + p_SN A cnt - fl - sh ≤ t → (0 ≤ n ∧ n ≤ 100) → n + (p_SF A cnt + p_SN A cnt - fl - sh) ≤ 100 → (0 ≤ fl ∧ fl ≤ p_SF A cnt) → (0 ≤ sh ∧ sh ≤ p_SN A cnt) → f (n + g_bN (p_T A cnt D) fl sh) M → b202_11 d h f c u4 u5 n fl sh u9 M := by
    intro t
    induction t with
    | zero =>
      intro n fl sh u4 u5 u9 ht hn0 hn1 h1 h2 H
      have bN := g_bN_s hT (f := fl) (n := sh) (by rw [T8.2.2.1]; exact h1) (by rw [T8.2.2.2]; exact h2)
      rw [T8.2.2.1, T8.2.2.2] at bN
      refine w202_11 hS ⟨⟨by omega, by omega⟩, ⟨by omega, by omega⟩, fun q => absurd q (by rw [hn.1]; omega), fun _ => ⟨⟨by omega, by omega⟩, ⟨by omega, by omega⟩, fun q => absurd q (by rw [hn.2]; omega), fun _ => ?_⟩⟩
      rw [bN.2.2 (by omega), Int.add_zero] at H
      exact H
    | succ t ih =>
      intro n fl sh u4 u5 u9 ht hn0 hn1 h1 h2 H
      have bN := g_bN_s hT (f := fl) (n := sh) (by rw [T8.2.2.1]; exact h1) (by rw [T8.2.2.2]; exact h2)
      have go := g_b_go hT (f := fl) (n := sh) (by rw [T8.2.2.1]; exact h1) (by rw [T8.2.2.2]; exact h2)
      have bF := g_bF_p hT (f := fl) (by rw [T8.2.2.1]; exact h1)
      rw [T8.2.2.1, T8.2.2.2] at bN go
      rw [T8.2.2.1, T8.2.1, e4, e4, e4] at bF
      have page : (fl < p_SF A cnt ∨ sh < p_SN A cnt) → ∀ u4 u5 : qV, b202_38 d h f c u4 u5 n fl sh (M 76 0 2) M := by
        intro any u4 u5
        have step := go.2.2 any
        rw [bN.2.1 any] at H
        -- lines
        have lns : ∀ (j : Int) (u4 u5 : qV), 0 ≤ j → j ≤ g_bL (p_T A cnt D) fl sh → b202_84 d h f c u4 u5 n (g_bF (p_T A cnt D) fl) (sh + j) (g_bR (p_T A cnt D) fl - j) M := by
          intro j u4 u5 j0 j1
          refine q_upto (P := fun j => 0 ≤ j → b202_84 d h f c u4 u5 n (g_bF (p_T A cnt D) fl) (sh + j) (g_bR (p_T A cnt D) fl - j) M) (a := j) (b := g_bL (p_T A cnt D) fl sh) j1 ?_ ?_ j0
          · intro _
            have nx : ∀ u9 : qV, b202_11 d h f c u4 u5 (n + 1) (g_bF (p_T A cnt D) fl) (sh + g_bL (p_T A cnt D) fl sh) u9 M := fun u9 => ih (n + 1) _ _ u4 u5 u9 (by omega) ⟨by omega, by omega⟩ (by omega) ⟨by omega, by omega⟩ ⟨by omega, by omega⟩ (by rw [show n + 1 + g_bN (p_T A cnt D) (g_bF (p_T A cnt D) fl) (sh + g_bL (p_T A cnt D) fl sh) = n + (1 + g_bN (p_T A cnt D) (g_bF (p_T A cnt D) fl) (sh + g_bL (p_T A cnt D) fl sh)) by omega]; exact H)
            refine w202_84 hS ⟨fun _ => ⟨⟨by omega, by omega⟩, nx _⟩, fun q => ⟨⟨by omega, by omega⟩, ⟨by omega, by omega⟩, fun q2 => ?_, fun _ => ⟨⟨by omega, by omega⟩, nx _⟩⟩⟩
            exfalso
            rw [hn.2] at q2
            have eL : g_bL (p_T A cnt D) fl sh = if g_bR (p_T A cnt D) fl < 1 then 0 else if p_SN A cnt - sh < g_bR (p_T A cnt D) fl then p_SN A cnt - sh else g_bR (p_T A cnt D) fl := by unfold g_bL; rw [T8.2.2.2]
            (repeat' split at eL) <;> omega
          · intro j j0 j1 ihj j00
            have eL : g_bL (p_T A cnt D) fl sh = if g_bR (p_T A cnt D) fl < 1 then 0 else if p_SN A cnt - sh < g_bR (p_T A cnt D) fl then p_SN A cnt - sh else g_bR (p_T A cnt D) fl := by unfold g_bL; rw [T8.2.2.2]
            have eR : g_bR (p_T A cnt D) fl = D - (p_hi A cnt (g_bF (p_T A cnt D) fl) - p_hi A cnt fl) - 1 := by unfold g_bR; rw [T8.2.1]; rfl
            have gg := hgh fl (g_bF (p_T A cnt D) fl) h1.1 bF.1.1 bF.1.2
            have b1 : j < g_bR (p_T A cnt D) fl ∧ sh + j < p_SN A cnt := by (repeat' split at eL) <;> omega
            refine w202_84 hS ⟨fun q => absurd q (by omega), fun _ => ⟨⟨by omega, by omega⟩, ⟨by omega, by omega⟩, fun _ => ⟨⟨by omega, by omega⟩, ⟨by omega, by omega⟩, ?_⟩, fun q => absurd (by rw [hn.2]; exact b1.2) q⟩⟩
            rw [show sh + j + 1 = sh + (j + 1) by omega, show g_bR (p_T A cnt D) fl - j + -1 = g_bR (p_T A cnt D) fl - (j + 1) by omega]
            exact ihj (by omega)
        -- floats
        have eR : g_bR (p_T A cnt D) fl = D - (p_hi A cnt (g_bF (p_T A cnt D) fl) - p_hi A cnt fl) - 1 := by unfold g_bR; rw [T8.2.1]; rfl
        have flt : ∀ (g : Int), fl ≤ g → g ≤ g_bF (p_T A cnt D) fl → b202_38 d h f c u4 u5 n g sh (D - (p_hi A cnt g - p_hi A cnt fl)) M := by
          intro g g0 g1
          refine q_upto (P := fun g => fl ≤ g → b202_38 d h f c u4 u5 n g sh (D - (p_hi A cnt g - p_hi A cnt fl)) M) (a := g) (b := g_bF (p_T A cnt D) fl) g1 ?_ ?_ g0
          · intro _
            have fin : ∀ u4 u5 : qV, b202_84 d h f c u4 u5 n (g_bF (p_T A cnt D) fl) sh (D - (p_hi A cnt (g_bF (p_T A cnt D) fl) - p_hi A cnt fl) + -1) M := fun u4 u5 => by
              have l0 := lns 0 u4 u5 (Int.le_refl _) go.1.1
              rw [Int.add_zero, Int.sub_zero, eR] at l0
              exact l0
            have gg := hgh fl (g_bF (p_T A cnt D) fl) h1.1 bF.1.1 bF.1.2
            refine w202_38 hS ⟨⟨by omega, by omega⟩, ⟨by omega, by omega⟩, fun q => ?_, fun _ => ⟨⟨by omega, by omega⟩, fin _ _⟩⟩
            rw [hn.1] at q
            refine L199 hS hA hw hf ⟨by omega, q⟩ ⟨fun q2 => ?_, fun _ => ⟨⟨by omega, by omega⟩, fin _ _⟩⟩
            exfalso
            have st : p_hi A cnt (g_bF (p_T A cnt D) fl + 1) = p_hi A cnt (g_bF (p_T A cnt D) fl) + p_fv A cnt (g_bF (p_T A cnt D) fl) := p_sum_s (by omega)
            rcases bF.2.2 with z | z <;> omega
          · intro g g0 g1 ihg g00
            have fv := p_fv_bd hA.2.2.2.1 (k := g) ⟨by omega, by omega⟩
            have st : p_hi A cnt (g + 1) = p_hi A cnt g + p_fv A cnt g := p_sum_s (by omega)
            have gg := hgh (g + 1) (g_bF (p_T A cnt D) fl) (by omega) (by omega) bF.1.2
            have gg2 := hgh fl g h1.1 g00 (by omega)
            refine w202_38 hS ⟨⟨by omega, by omega⟩, ⟨by omega, by omega⟩, fun _ => L199 hS hA hw hf ⟨by omega, by omega⟩ ⟨fun _ => L199 hS hA hw hf ⟨by omega, by omega⟩ ⟨⟨by omega, by omega⟩, ⟨by omega, by omega⟩, ?_⟩, fun q => absurd (by omega) q⟩, fun q => absurd (by rw [hn.1]; omega) q⟩
            rw [show D - (p_hi A cnt g - p_hi A cnt fl) - p_fv A cnt g = D - (p_hi A cnt (g + 1) - p_hi A cnt fl) by omega]
            exact ihg (by omega)
        have f0 := flt fl (Int.le_refl _) bF.1.1
        rw [Int.sub_self, Int.sub_zero] at f0
        rw [m2]
        exact f0
      refine w202_11 hS ⟨⟨by omega, by omega⟩, ⟨by omega, by omega⟩, fun q => page (Or.inl (by rw [hn.1] at q; exact q)) _ _, fun q => ⟨⟨by omega, by omega⟩, ⟨by omega, by omega⟩, fun q2 => page (Or.inr (by rw [hn.2] at q2; exact q2)) _ _, fun q2 => ?_⟩⟩
      rw [hn.1] at q
      rw [hn.2] at q2
      rw [bN.2.2 (by omega), Int.add_zero] at H
      exact H
  refine w202 hS (main (p_SF A cnt + p_SN A cnt - fl - sh).toNat 0 fl sh _ _ _ (by omega) ⟨by omega, by omega⟩ (by omega) h1 h2 ?_)
  rw [Int.zero_add]; exact H
end
/-- the number of a page -/
def k_pk (kd a n fl m sh ln gr : Int) : Int := kd + 8 * a + 256 * n + 4096 * fl + 32768 * m + sh * 262144 + ln * 4194304 + gr * 67108864
theorem k_pk_p {kd a n fl m sh ln gr : Int} (h1 : 0 ≤ kd ∧ kd ≤ 7) (h2 : 0 ≤ a ∧ a ≤ 31) (h3 : 0 ≤ n ∧ n ≤ 15) (h4 : 0 ≤ fl ∧ fl ≤ 7) (h5 : 0 ≤ m ∧ m ≤ 7) (h6 : 0 ≤ sh ∧ sh ≤ 15) (h7 : 0 ≤ ln ∧ ln ≤ 15) (h8 : 0 ≤ gr ∧ gr ≤ 31) : (0 ≤ k_pk kd a n fl m sh ln gr ∧ k_pk kd a n fl m sh ln gr ≤ 2147483647) ∧ k_pk kd a n fl m sh ln gr % 8 = kd ∧ k_pk kd a n fl m sh ln gr / 8 % 32 = a ∧ k_pk kd a n fl m sh ln gr / 256 % 16 = n ∧ k_pk kd a n fl m sh ln gr / 4096 % 8 = fl ∧ k_pk kd a n fl m sh ln gr / 32768 % 8 = m ∧ k_pk kd a n fl m sh ln gr / 262144 % 16 = sh ∧ k_pk kd a n fl m sh ln gr / 4194304 % 16 = ln ∧ k_pk kd a n fl m sh ln gr / 67108864 = gr := by
  unfold k_pk
  refine ⟨⟨by omega, by omega⟩, by omega, by omega, by omega, by omega, by omega, by omega, by omega, by omega⟩
section
variable {d : Nat} {h : qH} {M : qM} {F : qM → Prop}
theorem L203 (hS : qSe h) {kd a n fl m sh ln gr fi : Int} (h1 : 0 ≤ kd ∧ kd ≤ 7) (h2 : 0 ≤ a ∧ a ≤ 31) (h3 : 0 ≤ n ∧ n ≤ 15) (h4 : 0 ≤ fl ∧ fl ≤ 7) (h5 : 0 ≤ m ∧ m ≤ 7) (h6 : 0 ≤ sh ∧ sh ≤ 15) (h7 : 0 ≤ ln ∧ ln ≤ 15) (h8 : 0 ≤ gr ∧ gr ≤ 31) (hp : 0 ≤ M 76 0 6 ∧ M 76 0 6 ≤ 60)
    (H : ∀ M', (∀ (k : Nat) (o s : Int), ¬ (k = 76 ∧ o = 0 ∧ s = 6) → ¬ ((k = 74 ∨ k = 75) ∧ o = 0 ∧ s = M 76 0 6 + 1) → M' k o s = M k o s) → M' 76 0 6 = M 76 0 6 + 1 → M' 74 0 (M 76 0 6 + 1) = k_pk kd a n fl m sh ln gr → M' 75 0 (M 76 0 6 + 1) = fi → F M') : e203 (d + 1) h kd a n fl m sh ln gr fi M F := by
  refine w203 hS ⟨⟨by omega, by omega⟩, fun M1 f1 => ⟨⟨by omega, by omega⟩, ⟨by omega, by omega⟩, ⟨by omega, by omega⟩, ⟨by omega, by omega⟩, ⟨by omega, by omega⟩, ⟨by omega, by omega⟩, ⟨by omega, by omega⟩, ⟨by omega, by omega⟩, ⟨by omega, by omega⟩, ⟨by omega, by omega⟩, ⟨by omega, by omega⟩, ⟨by omega, by omega⟩, ⟨by omega, by omega⟩, ⟨by omega, by omega⟩, ?_⟩⟩
  have v1 : M1 76 0 6 = M 76 0 6 + 1 := by rw [f1, qU_s]
  rw [v1]
  refine ⟨⟨by omega, by omega⟩, fun M2 f2 => ?_⟩
  have v2 : M2 76 0 6 = M 76 0 6 + 1 := by rw [f2, qU_k (by decide)]; exact v1
  rw [v2]
  refine ⟨⟨by omega, by omega⟩, fun M3 f3 => H M3 (fun k o s q1 q2 => ?_) ?_ ?_ ?_⟩
  · rw [f3, f2, f1]
    unfold qU
    rw [if_neg (fun z => q2 ⟨Or.inr z.1, z.2.1, z.2.2⟩), if_neg (fun z => q2 ⟨Or.inl z.1, z.2.1, z.2.2⟩), if_neg q1]
  · rw [f3, qU_k (by decide)]; exact v2
  · rw [f3, qU_k (by decide), f2, qU_s]; rfl
  · rw [f3, qU_s]
theorem L207 (hS : qSe h) {c a n fl m sh : Int} (hc : 0 ≤ c ∧ c < 3) (h2 : 0 ≤ a ∧ a + n ≤ 16) (h3 : 0 ≤ n ∧ n ≤ 15) (h4 : 0 ≤ fl ∧ fl ≤ 7) (h5 : 0 ≤ m ∧ m ≤ 7) (h6 : 0 ≤ sh ∧ sh ≤ 15) (h7 : 0 ≤ M 76 0 29 ∧ M 76 0 29 ≤ 15) (h8 : 0 ≤ M 76 0 30 ∧ M 76 0 30 ≤ 31) (hp : 0 ≤ M 76 0 6 ∧ M 76 0 6 ≤ 60) (hq : (0 ≤ M 76 0 (16 + c) ∧ M 76 0 (16 + c) ≤ 100000) ∧ 0 ≤ M 76 0 32 ∧ M 76 0 32 ≤ 100000)
    (H : ∀ M', (∀ (k : Nat) (o s : Int), ¬ (k = 76 ∧ o = 0 ∧ (s = 6 ∨ s = 16 + c)) → ¬ ((k = 74 ∨ k = 75) ∧ o = 0 ∧ s = M 76 0 6 + 1) → ¬ (k = 71 ∧ o = 0 ∧ 20 * c + a ≤ s ∧ s < 20 * c + a + n) → M' k o s = M k o s) → M' 76 0 6 = M 76 0 6 + 1 → M' 76 0 (16 + c) = M 76 0 (16 + c) + M 76 0 32 → M' 74 0 (M 76 0 6 + 1) = k_pk c a n fl m sh (M 76 0 29) (M 76 0 30) → M' 75 0 (M 76 0 6 + 1) = M 76 0 31 → (∀ q, a ≤ q → q < a + n → M' 71 0 (20 * c + q) = (M 76 0 6 + 1) * 16384 + M 71 0 (20 * c + q) % 16384) → F M') : e207 (d + 2) h c a n fl m sh M F := by
  refine w207 hS (L203 hS ⟨by omega, by omega⟩ ⟨by omega, by omega⟩ h3 h4 h5 h6 h7 h8 hp (fun M1 O1 v6 v74 v75 => ?_))
  have w16 : M1 76 0 (16 + c) = M 76 0 (16 + c) := O1 _ _ _ (by omega) (by omega)
  have w32 : M1 76 0 32 = M 76 0 32 := O1 _ _ _ (by omega) (by omega)
  rw [w16, w32]
  refine ⟨⟨by omega, by omega⟩, ⟨by omega, by omega⟩, ⟨by omega, by omega⟩, ⟨by omega, by omega⟩, fun M2 f2 => ?_⟩
  have O2 : ∀ (k : Nat) (o s : Int), ¬ (k = 76 ∧ o = 0 ∧ s = 16 + c) → M2 k o s = M1 k o s := fun k o s q => by rw [f2]; unfold qU; rw [if_neg q]
  have v16 : M2 76 0 (16 + c) = M 76 0 (16 + c) + M 76 0 32 := by rw [f2, qU_s]
  have e6 : M2 76 0 6 = M 76 0 6 + 1 := by rw [O2 _ _ _ (by omega)]; exact v6
  refine q_upto (P := fun j => ∀ (M3 : qM) (u0 u1 u6 u7 u8 : qV), a ≤ j → (∀ (k : Nat) (o s : Int), ¬ (k = 71 ∧ o = 0 ∧ 20 * c + a ≤ s ∧ s < 20 * c + j) → M3 k o s = M2 k o s) → (∀ q, a ≤ q → q < j → M3 71 0 (20 * c + q) = (M 76 0 6 + 1) * 16384 + M 71 0 (20 * c + q) % 16384) → b207_46 d h F u0 u1 c a n u6 u7 u8 j M3) (a := a) (b := a + n) (by omega) ?_ ?_ M2 _ _ _ _ _ (Int.le_refl _) (fun _ _ _ _ => rfl) (fun q q0 q1 => by omega)
  · intro M3 u0 u1 u6 u7 u8 _ O3 r3
    refine w207_46 hS ⟨⟨by omega, by omega⟩, fun q => absurd q (by omega), fun _ => H M3 (fun k o s q1 q2 q3 => ?_) ?_ ?_ ?_ ?_ r3⟩
    · rw [O3 k o s (fun z => q3 ⟨z.1, z.2.1, by omega⟩), O2 k o s (fun z => q1 ⟨z.1, z.2.1, Or.inr z.2.2⟩)]
      exact O1 k o s (fun z => q1 ⟨z.1, z.2.1, Or.inl z.2.2⟩) q2
    · rw [O3 _ _ _ (by omega)]; exact e6
    · rw [O3 _ _ _ (by omega)]; exact v16
    · rw [O3 _ _ _ (by omega), O2 _ _ _ (by omega)]; exact v74
    · rw [O3 _ _ _ (by omega), O2 _ _ _ (by omega)]; exact v75
  · intro j j0 j1 ih M3 u0 u1 u6 u7 u8 _ O3 r3
    have e63 : M3 76 0 6 = M 76 0 6 + 1 := by rw [O3 _ _ _ (by omega)]; exact e6
    have rj : M3 71 0 (20 * c + j) = M 71 0 (20 * c + j) := by rw [O3 _ _ _ (by omega), O2 _ _ _ (by omega), O1 _ _ _ (by omega) (by omega)]
    refine w207_46 hS ⟨⟨by omega, by omega⟩, fun _ => ⟨⟨by omega, by omega⟩, ⟨by omega, by omega⟩, ⟨by omega, by omega⟩, ⟨by omega, by omega⟩, ⟨by omega, by omega⟩, ⟨by omega, by omega⟩, ⟨by omega, by omega⟩, fun M4 f4 => ⟨⟨by omega, by omega⟩, ih M4 _ _ _ _ _ (by omega) (fun k o s q => ?_) (fun q q0 q1 => ?_)⟩⟩, fun q => absurd j1 q⟩
    · rw [f4]
      unfold qU
      rw [if_neg (fun z => q ⟨z.1, z.2.1, by omega⟩)]
      exact O3 k o s (fun z => q ⟨z.1, z.2.1, by omega⟩)
    · rw [f4]
      unfold qU
      by_cases z : q = j
      · rw [if_pos ⟨rfl, rfl, by omega⟩, k_a16383, rj, e63, z]
        exact k_or14 ⟨by omega, by omega⟩ ⟨by omega, by omega⟩
      · rw [if_neg (fun y => z (by omega))]
        exact r3 q q0 (by omega)
end
