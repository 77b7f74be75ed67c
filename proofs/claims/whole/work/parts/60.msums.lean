/-! ===== FacingleafModel.laysSums ===== -/
/-- words up to one are counted, in the model -/
def p_mw (A : pA) (c i w : Int) (M : qM) : Prop := M 94 0 c = p_FB A i w ∧ M 96 0 c = p_NB A i w ∧ ∀ i' w', 0 ≤ i' → 0 ≤ w' → w' < A 6 i' 0 → (i' < i ∨ (i' = i ∧ w' < w)) → (A 4 i' w' = 3 → M 95 0 (4 * c + p_FB A i' w') = p_id c i' w') ∧ (A 4 i' w' = 2 → ∀ k, 0 ≤ k → k < A 5 i' w' → M 97 0 (12 * c + (p_NB A i' w' + k)) = p_id c i' w' ∧ M 98 0 (12 * c + (p_NB A i' w' + k)) = k)
/-- what is summed up to a row -/
def p_mS (A : pA) (r : Int) (M : qM) : Prop := ∀ q, 0 ≤ q → q ≤ r → M 99 0 q = p_bl A q ∧ M 100 0 q = p_fl A q ∧ M 101 0 q = p_nl A q ∧ M 102 0 q = p_ls A q - 1
def fr181w (c r : Int) (M M' : qM) : Prop := ∀ (k : Nat) (m s : Int), ¬ (m = 0 ∧ (((k = 94 ∨ k = 96) ∧ s = c) ∨ (k = 95 ∧ 4 * c ≤ s ∧ s < 4 * c + 4) ∨ ((k = 97 ∨ k = 98) ∧ 12 * c ≤ s ∧ s < 12 * c + 12) ∨ (k = 102 ∧ s = r + 1))) → M' k m s = M k m s
theorem t181w {d : Nat} {h : qH} (hS : qSe h) {A : pA} {cnt c r i w : Int} {M : qM} {f : qM → Prop} {u5 u6 : qV} (hA : p_okA A cnt) (hc : 0 ≤ c ∧ c < 3) (hr : 0 ≤ r ∧ r < 70) (hi : 0 ≤ i ∧ i < cnt) (hw : 0 ≤ w ∧ w < A 6 i 0)
    (rep : M 70 0 (p_id c i w) = A 4 i w ∧ M 71 0 (p_id c i w) = A 5 i w) (h88 : M 88 0 (70 * c + r) = i) (h91 : w < M 91 0 (70 * c + r))
    (hI : p_mw A c i w M) (hL : M 102 0 (r + 1) = p_LS A i w - 1)
    (H : ∀ M' u5 u6, fr181w c r M M' → p_mw A c i (w + 1) M' → M' 102 0 (r + 1) = p_LS A i (w + 1) - 1 → b181_121 d h f c r (70 * c + r) (w + 1) u5 u6 M') : b181_121 d h f c r (70 * c + r) w u5 u6 M := by
  have hcn := hA.1
  have h6 := p_okA_6 hA hi
  obtain ⟨i1, i2, i6⟩ := hI
  obtain ⟨rk, rv⟩ := rep
  have hv := (hA.2.1 i hi.1 hi.2).1 w
  have z1 := p_FB_s (A := A) (i := i) hw.1
  have z2 := p_NB_s (A := A) (i := i) hw.1
  have z3 := p_LS_s (A := A) (i := i) hw.1
  have z4 := p_FB_end hA hi (w := w) ⟨hw.1, by omega⟩
  have z5 := p_FB_end hA hi (w := w + 1) ⟨by omega, by omega⟩
  have pid : p_id c i w = 200 * c + 20 * i + w := by unfold p_id; omega
  have mono : ∀ i' w', 0 ≤ i' → 0 ≤ w' → w' < A 6 i' 0 → (i' < i ∨ (i' = i ∧ w' < w)) → p_FB A i' w' + (if A 4 i' w' = 3 then 1 else 0) ≤ p_FB A i w ∧ p_NB A i' w' + (if A 4 i' w' = 2 then A 5 i' w' else 0) ≤ p_NB A i w := fun i' w' a b c e => p_FB_mono hA ⟨a, by omega⟩ ⟨b, c⟩ ⟨hw.1, Or.inl hi.2⟩ e
  -- behind the float
  have behind : ∀ (M1 : qM), fr181w c r M M1 → M1 102 0 (r + 1) = p_LS A i w - 1 → M1 94 0 c = p_FB A i (w + 1) → M1 96 0 c = p_NB A i w → (∀ i' w', 0 ≤ i' → 0 ≤ w' → w' < A 6 i' 0 → (i' < i ∨ (i' = i ∧ w' < w + 1)) → A 4 i' w' = 3 → M1 95 0 (4 * c + p_FB A i' w') = p_id c i' w') → (∀ i' w', 0 ≤ i' → 0 ≤ w' → w' < A 6 i' 0 → (i' < i ∨ (i' = i ∧ w' < w)) → A 4 i' w' = 2 → ∀ k, 0 ≤ k → k < A 5 i' w' → M1 97 0 (12 * c + (p_NB A i' w' + k)) = p_id c i' w' ∧ M1 98 0 (12 * c + (p_NB A i' w' + k)) = k) → b181_184 d h f c r (70 * c + r) w (p_id c i w) u6 M1 := by
    intro M1 f1 l1 c94 c96 pf pn
    have r1 : M1 70 0 (p_id c i w) = A 4 i w := by rw [f1 _ _ _ (by omega)]; exact rk
    have r2 : M1 71 0 (p_id c i w) = A 5 i w := by rw [f1 _ _ _ (by omega)]; exact rv
    refine w181_184 hS ⟨⟨by omega, by omega⟩, ⟨by omega, by omega⟩, ⟨fun _ => hc, fun _ => ⟨⟨by omega, by omega⟩, by omega, by omega⟩⟩, fun x hx => ⟨⟨by omega, by omega⟩, fun M2 f2 => ?_⟩⟩
    have O2 : ∀ (k : Nat) (m s : Int), ¬ (k = 102 ∧ m = 0 ∧ s = r + 1) → M2 k m s = M1 k m s := fun k m s q => by rw [f2]; unfold qU; rw [if_neg q]
    have l2 : M2 102 0 (r + 1) = p_LS A i (w + 1) - 1 := by
      rw [f2, qU_s, hx, r1, z3]
      split
      · omega
      · exact l1
    have cond : A 4 i w = 2 ∨ A 4 i w ≠ 2 := by omega
    refine q_upto (P := fun j => 0 ≤ j → (A 4 i w = 2 ∨ j = 0) → ∀ (M3 : qM), (∀ (k : Nat) (m s : Int), ¬ (m = 0 ∧ ((k = 96 ∧ s = c) ∨ ((k = 97 ∨ k = 98) ∧ 12 * c + p_NB A i w ≤ s ∧ s < 12 * c + p_NB A i (w + 1)))) → M3 k m s = M2 k m s) → M3 96 0 c = p_NB A i w + j → (∀ k, 0 ≤ k → k < j → M3 97 0 (12 * c + (p_NB A i w + k)) = p_id c i w ∧ M3 98 0 (12 * c + (p_NB A i w + k)) = k) → b181_223 d h f c r (70 * c + r) w (p_id c i w) j M3) (a := 0) (b := A 5 i w) hv.1 ?_ ?_ (Int.le_refl _) (Or.inr rfl) M2 (fun _ _ _ _ => rfl) (by rw [O2 _ _ _ (by omega), c96]; omega) (fun k a b => by omega)
    · intro _ h2 M3 f3 c3 p3
      have r3 : M3 71 0 (p_id c i w) = A 5 i w := by rw [f3 _ _ _ (by omega), O2 _ _ _ (by omega)]; exact r2
      refine w181_223 hS ⟨⟨by omega, by omega⟩, fun q => by omega, fun _ => ⟨⟨by omega, by omega⟩, H M3 _ _ (fun k m s q => ?_) ⟨?_, ?_, fun i' w' a b e g => ⟨fun q => ?_, fun q k k0 k1 => ?_⟩⟩ ?_⟩⟩
      · rw [f3 k m s (by omega), O2 k m s (by omega), f1 k m s q]
      · rw [f3 _ _ _ (by omega), O2 _ _ _ (by omega), c94]
      · rw [c3, z2]
        rcases h2 with h2 | h2
        · rw [if_pos h2]
        · by_cases hk : A 4 i w = 2
          · rw [if_pos hk]
          · rw [if_neg hk]; omega
      · rw [f3 _ _ _ (by omega), O2 _ _ _ (by omega)]; exact pf i' w' a b e (by omega) q
      · by_cases hl : i' = i ∧ w' = w
        · obtain ⟨rfl, rfl⟩ := hl; exact p3 k k0 k1
        · have e' : i' < i ∨ (i' = i ∧ w' < w) := by omega
          have m1 := (mono i' w' a b e e').2
          rw [if_pos q] at m1
          rw [f3 _ _ _ (by omega), f3 _ _ _ (by omega), O2 _ _ _ (by omega), O2 _ _ _ (by omega)]
          exact pn i' w' a b e e' q k k0 k1
      · rw [f3 _ _ _ (by omega)]; exact l2
    · intro j j0 j1 ih _ h2 M3 f3 c3 p3
      have r3 : M3 71 0 (p_id c i w) = A 5 i w := by rw [f3 _ _ _ (by omega), O2 _ _ _ (by omega)]; exact r2
      have r4 : M3 70 0 (p_id c i w) = A 4 i w := by rw [f3 _ _ _ (by omega), O2 _ _ _ (by omega)]; exact r1
      refine w181_223 hS ⟨⟨by omega, by omega⟩, fun _ => ⟨⟨by omega, by omega⟩, fun k2 => ?_, fun k2 => ?_⟩, fun q => by omega⟩
      · rw [r4] at k2
        rw [if_pos k2] at z2
        refine ⟨⟨by omega, by omega⟩, hc, ⟨by omega, by omega⟩, ⟨by omega, by omega⟩, fun M4 f4 => ?_⟩
        have c4 : M4 96 0 c = p_NB A i w + j := by rw [f4, qU_k (by decide), c3]
        refine ⟨⟨by omega, by omega⟩, hc, ⟨by omega, by omega⟩, ⟨by omega, by omega⟩, fun M5 f5 => ?_⟩
        have c5 : M5 96 0 c = p_NB A i w + j := by rw [f5, qU_k (by decide), c4]
        refine ⟨hc, ⟨by omega, by omega⟩, hc, fun M6 f6 => ⟨⟨by omega, by omega⟩, ih (by omega) (Or.inl k2) M6 (fun k m s q => ?_) (by rw [f6, qU_s, c5]; omega) (fun k k0 k1 => ?_)⟩⟩
        · rw [← f3 k m s q, f6, f5, c4, f4, c3]
          unfold qU
          rw [if_neg (by omega), if_neg (by omega), if_neg (by omega)]
        · rw [c3] at f4
          rw [c4] at f5
          by_cases hk : k = j
          · subst hk
            refine ⟨?_, ?_⟩
            · rw [f6, qU_k (by decide), f5, qU_k (by decide), f4, qU_s]
            · rw [f6, qU_k (by decide), f5, qU_s]
          · have := p3 k k0 (by omega)
            rw [f6, qU_k (by decide), f5, qU_k (by decide), f4, qU_l (by omega), qU_k (by decide), qU_l (by omega), qU_k (by decide)]
            exact this
      · rw [r4] at k2
        have hj : j = 0 := by omega
        subst hj
        rw [if_neg k2] at z2
        refine ⟨⟨by omega, by omega⟩, H M3 _ _ (fun k m s q => ?_) ⟨?_, ?_, fun i' w' a b e g => ⟨fun q => ?_, fun q k k0 k1 => ?_⟩⟩ ?_⟩
        · rw [f3 k m s (by omega), O2 k m s (by omega), f1 k m s q]
        · rw [f3 _ _ _ (by omega), O2 _ _ _ (by omega), c94]
        · rw [c3, z2]
        · rw [f3 _ _ _ (by omega), O2 _ _ _ (by omega)]; exact pf i' w' a b e (by omega) q
        · have e' : i' < i ∨ (i' = i ∧ w' < w) := by
            by_cases hl : i' = i ∧ w' = w
            · obtain ⟨rfl, rfl⟩ := hl; exact absurd q k2
            · omega
          have m1 := (mono i' w' a b e e').2
          rw [if_pos q] at m1
          rw [f3 _ _ _ (by omega), f3 _ _ _ (by omega), O2 _ _ _ (by omega), O2 _ _ _ (by omega)]
          exact pn i' w' a b e e' q k k0 k1
        · rw [f3 _ _ _ (by omega)]; exact l2
  refine w181_121 hS ⟨⟨by omega, by omega⟩, fun _ => ⟨⟨by omega, by omega⟩, ?_⟩, fun q => absurd h91 q⟩
  rw [h88]
  refine t158 hS hc ⟨by omega, by omega⟩ ⟨by omega, by omega⟩ ⟨⟨by omega, by omega⟩, fun k3 => ?_, fun k3 => ?_⟩
  · rw [rk] at k3
    rw [if_pos k3] at z1
    refine ⟨⟨by omega, by omega⟩, hc, ⟨by omega, by omega⟩, ⟨by omega, by omega⟩, fun M1 f1 => ?_⟩
    have c1 : M1 94 0 c = p_FB A i w := by rw [f1, qU_k (by decide)]; exact i1
    refine ⟨hc, ⟨by omega, by omega⟩, hc, fun M2 f2 => ?_⟩
    rw [i1] at f1
    refine behind M2 (fun k m s q => ?_) ?_ ?_ ?_ (fun i' w' a b e g q => ?_) (fun i' w' a b e g q k k0 k1 => ?_)
    · rw [f2, f1]; unfold qU; rw [if_neg (by omega), if_neg (by omega)]
    · rw [f2, qU_k (by decide), f1, qU_k (by decide)]; exact hL
    · rw [f2, qU_s, c1]; omega
    · rw [f2, qU_k (by decide), f1, qU_k (by decide)]; exact i2
    · rw [f2, qU_k (by decide), f1]
      by_cases hl : i' = i ∧ w' = w
      · obtain ⟨rfl, rfl⟩ := hl; rw [qU_s]
      · have e' : i' < i ∨ (i' = i ∧ w' < w) := by omega
        have m1 := (mono i' w' a b e e').1
        rw [if_pos q] at m1
        rw [qU_l (by omega)]
        exact (i6 i' w' a b e e').1 q
    · rw [f2, qU_k (by decide), f1, qU_k (by decide), qU_k (by decide), qU_k (by decide)]
      exact (i6 i' w' a b e g).2 q k k0 k1
  · rw [rk] at k3
    rw [if_neg k3] at z1
    refine behind M (fun _ _ _ _ => rfl) hL (by omega) i2 (fun i' w' a b e g q => ?_) (fun i' w' a b e g q k k0 k1 => (i6 i' w' a b e g).2 q k k0 k1)
    have e' : i' < i ∨ (i' = i ∧ w' < w) := by
      by_cases hl : i' = i ∧ w' = w
      · obtain ⟨rfl, rfl⟩ := hl; exact absurd q k3
      · omega
    exact (i6 i' w' a b e e').1 q
def fr181 (c : Int) (M M' : qM) : Prop := ∀ (k : Nat) (m s : Int), ¬ (m = 0 ∧ (((k = 94 ∨ k = 96) ∧ s = c) ∨ (k = 95 ∧ 4 * c ≤ s ∧ s < 4 * c + 4) ∨ ((k = 97 ∨ k = 98) ∧ 12 * c ≤ s ∧ s < 12 * c + 12) ∨ (99 ≤ k ∧ k ≤ 102))) → M' k m s = M k m s
theorem t181 {d : Nat} {h : qH} (hS : qSe h) {A : pA} {cnt c : Int} {M : qM} {f : qM → Prop} (hA : p_okA A cnt) (hc : 0 ≤ c ∧ c < 3) (hr : ∀ i w, 0 ≤ i → i < cnt → 0 ≤ w → w < 20 → M 70 0 (p_id c i w) = A 4 i w ∧ M 71 0 (p_id c i w) = A 5 i w) (hR : p_mR A c (p_SR A cnt) M)
    (H : ∀ M', fr181 c M M' → p_mS A (p_SR A cnt) M' → p_mw A c cnt 0 M' → f M') : e181 (d + 2) h c M f := by
  have hcn := hA.1
  have b70 := hA.2.2.2.2
  have b0 : 0 ≤ p_SR A cnt := by have := p_SR_le hA (i := 0) ⟨by omega, hcn.1⟩; have : p_SR A 0 = 0 := rfl; omega
  -- the end of the words of a row: the next row's first one, or the last
  have nextw : ∀ r M', 0 ≤ r → r < p_SR A cnt → p_mw A c (p_ri A r) (p_to A r) M' → (r + 1 < p_SR A cnt → p_mw A c (p_ri A (r + 1)) (p_fr A (r + 1)) M' ∧ p_ls A (r + 1) = p_LS A (p_ri A (r + 1)) (p_fr A (r + 1))) ∧ (r + 1 = p_SR A cnt → p_mw A c cnt 0 M') := by
    intro r M' r0 r1 hw
    obtain ⟨i, s, a1, a2, a3, a4, a5⟩ := p_row_dec hA ⟨r0, r1⟩
    have sR := p_SR_s (A := A) a1.1
    have h6 := p_okA_6 hA a1
    have lsr : p_ls A (r + 1) = p_LS A i (p_to A r) := by unfold p_ls; rw [if_neg (by omega), show r + 1 - 1 = r by omega, a4]
    rw [a4] at hw
    by_cases hl : s + 1 < A 2 i 0
    · -- the same item
      have at1 := p_rc_at hA i (s + 1) a1.1 a1.2 (by omega) hl
      rw [show p_SR A i + (s + 1) = r + 1 by omega] at at1
      have e1 : p_ri A (r + 1) = i := by unfold p_ri; rw [at1.1]
      have e2 : p_rl A (r + 1) = s + 1 := by unfold p_rl; rw [at1.1]
      have e3 : p_fr A (r + 1) = p_to A r := by
        rcases (hA.2.1 i a1.1 a1.2).2 with ⟨k1, k2, k3, k4⟩ | ⟨k1, k2, k3, k4, k5, k6⟩
        · omega
        · unfold p_fr p_to
          rw [e1, e2, a4, a5, if_pos k1, if_pos k1, if_neg (by omega), show s + 1 - 1 = s by omega]
      refine ⟨fun _ => ⟨by rw [e1, e3]; exact hw, by rw [lsr, e1, e3]⟩, fun q => ?_⟩
      have bR : p_SR A (i + 1) ≤ p_SR A cnt := p_SR_le hA ⟨by omega, by omega⟩
      omega
    · have ws : p_to A r = A 6 i 0 := by
        rcases (hA.2.1 i a1.1 a1.2).2 with ⟨k1, k2, k3, k4⟩ | ⟨k1, k2, k3, k4, k5, k6⟩
        · unfold p_to; rw [a4, if_neg (by omega), k3]
        · unfold p_to; rw [a4, a5, if_pos k1, show s = A 2 i 0 - 1 by omega, k6]
      rw [ws] at hw
      have hn : p_mw A c (i + 1) 0 M' := by
        obtain ⟨y1, y2, y6⟩ := hw
        refine ⟨by rw [p_FB_i a1.1]; exact y1, by rw [p_NB_i a1.1]; exact y2, fun i' w' a b e g => y6 i' w' a b e ?_⟩
        by_cases h : i' = i
        · subst h; omega
        · omega
      have e0 : r + 1 = p_SR A (i + 1) := by omega
      refine ⟨fun q => ?_, fun q => ?_⟩
      · have hic : i + 1 < cnt := by
          refine Classical.byContradiction fun z => ?_
          rw [show cnt = i + 1 by omega] at q
          omega
        have h7 := p_okA_6 hA (i := i + 1) ⟨by omega, hic⟩
        have at1 := p_rc_at hA (i + 1) 0 (by omega) hic (by omega) (by omega)
        rw [show p_SR A (i + 1) + 0 = r + 1 by omega] at at1
        have e1 : p_ri A (r + 1) = i + 1 := by unfold p_ri; rw [at1.1]
        have e2 : p_rl A (r + 1) = 0 := by unfold p_rl; rw [at1.1]
        have e3 : p_fr A (r + 1) = 0 := by unfold p_fr; rw [e1, e2]; split <;> rfl
        refine ⟨by rw [e1, e3]; exact hn, ?_⟩
        rw [lsr, ws, e1, e3, p_LS_i a1.1]
      · by_cases hic : i + 1 < cnt
        · have h7 := p_okA_6 hA (i := i + 1) ⟨by omega, hic⟩
          have bR : p_SR A (i + 1 + 1) ≤ p_SR A cnt := p_SR_le hA ⟨by omega, by omega⟩
          have := p_SR_s (A := A) (i := i + 1) (by omega)
          omega
        · rw [show cnt = i + 1 by omega]; exact hn
  have keep : ∀ M', fr181 c M M' → p_mR A c (p_SR A cnt) M' := fun M' hf => ⟨by rw [hf _ _ _ (by omega)]; exact hR.1, fun q a b => by
    have := hR.2 q a b
    rw [hf _ _ _ (by omega), hf _ _ _ (by omega), hf _ _ _ (by omega), hf _ _ _ (by omega)]
    exact ⟨this.1, this.2.1, this.2.2.1, this.2.2.2.1, fun w x y => by rw [hf _ _ _ (by omega)]; exact this.2.2.2.2 w x y⟩⟩
  refine w181 hS ⟨hc, fun M1 f1 => ⟨hc, fun M2 f2 M3 f3 M4 f4 M5 f5 M6 f6 => ?_⟩⟩
  have F6 : fr181 c M M6 := fun k m s q => by rw [f6, f5, f4, f3, f2, f1]; unfold qU; rw [if_neg (by omega), if_neg (by omega), if_neg (by omega), if_neg (by omega), if_neg (by omega), if_neg (by omega)]
  have mw0 : p_mw A c 0 0 M6 := by
    have a1 : p_FB A 0 0 = 0 := rfl
    have a2 : p_NB A 0 0 = 0 := rfl
    exact ⟨by rw [a1, f6, f5, f4, f3, f2, f1]; unfold qU; grind, by rw [a2, f6, f5, f4, f3, f2, f1]; unfold qU; grind, fun i' w' a b e g => by omega⟩
  have mS0 : p_mS A 0 M6 := by
    intro q a b
    have hq : q = 0 := by omega
    have a1 : p_bl A 0 = 0 := rfl
    have a2 : p_fl A 0 = 0 := rfl
    have a3 : p_nl A 0 = 0 := rfl
    have a4 : p_ls A 0 = 0 := rfl
    rw [hq, a1, a2, a3, a4, f6, f5, f4, f3, f2, f1]
    unfold qU
    refine ⟨by grind, by grind, by grind, by grind⟩
  refine q_upto (P := fun r => 0 ≤ r → ∀ (u3 u4 u5 u6 : qV) (M7 : qM), fr181 c M M7 → p_mS A r M7 → ((r < p_SR A cnt → p_mw A c (p_ri A r) (p_fr A r) M7 ∧ p_ls A r = p_LS A (p_ri A r) (p_fr A r)) ∧ (r = p_SR A cnt → p_mw A c cnt 0 M7)) → b181_44 d h f c r u3 u4 u5 u6 M7) (a := 0) (b := p_SR A cnt) b0 ?_ ?_ (Int.le_refl _) _ _ _ _ M6 F6 mS0 ⟨fun q => ?_, fun q => ?_⟩
  · intro _ u3 u4 u5 u6 M7 f7 s7 w7
    exact w181_44 hS ⟨hc, fun q => by rw [(keep M7 f7).1] at q; omega, fun _ => H M7 f7 s7 (w7.2 rfl)⟩
  · intro r r0 r1 ih _ u3 u4 u5 u6 M7 f7 s7 w7
    have k7 := keep M7 f7
    obtain ⟨g1, g2, g3, g4, g5⟩ := k7.2 r r0 r1
    have bb := p_bl_bd (A := A) r0
    obtain ⟨x1, x2, x3, x4⟩ := s7 r r0 (Int.le_refl _)
    have rin := p_row_in hA ⟨r0, r1⟩
    refine w181_44 hS ⟨hc, fun _ => ⟨⟨by omega, by omega⟩, ⟨by omega, by omega⟩, ⟨by omega, by omega⟩, ⟨by omega, by omega⟩, ⟨by omega, by omega⟩, fun _ => ⟨by omega, by omega⟩, fun x hx => ?_⟩, fun q => by rw [k7.1] at q; omega⟩
    have hx2 : x = p_ib A r := by rw [hx, g1, g2]; rfl
    have hx3 : 0 ≤ x ∧ x ≤ 1 := by rw [hx]; split <;> (try split) <;> omega
    rw [x1]
    refine ⟨⟨by omega, by omega⟩, ⟨by omega, by omega⟩, fun M8 f8 => ⟨⟨by omega, by omega⟩, ⟨by omega, by omega⟩, ⟨by omega, by omega⟩, fun M9 f9 => ⟨⟨by omega, by omega⟩, ?_⟩⟩⟩
    have O9 : ∀ (k : Nat) (m s : Int), ¬ ((k = 99 ∨ k = 102) ∧ m = 0 ∧ s = r + 1) → M9 k m s = M7 k m s := fun k m s q => by rw [f9, f8]; unfold qU; rw [if_neg (by omega), if_neg (by omega)]
    have l9 : M9 102 0 (r + 1) = p_ls A r - 1 := by rw [f9, qU_s, f8, qU_k (by decide), x4]
    have b9 : M9 99 0 (r + 1) = p_bl A (r + 1) := by rw [f9, qU_k (by decide), f8, qU_s, hx2]; exact (p_sum_s r0).symm
    rw [show M9 90 0 (70 * c + r) = p_fr A r by rw [O9 _ _ _ (by omega)]; exact g3]
    have w9 := (w7.1 r1).1
    have ls9 := (w7.1 r1).2
    refine q_upto (P := fun w => 0 ≤ w → ∀ (u5 u6 : qV) (M10 : qM), fr181w c r M9 M10 → p_mw A c (p_ri A r) w M10 → M10 102 0 (r + 1) = p_LS A (p_ri A r) w - 1 → b181_121 d h f c r (70 * c + r) w u5 u6 M10) (a := p_fr A r) (b := p_to A r) rin.2.2.2.1 ?_ ?_ rin.2.2.1 u5 u6 M9 (fun _ _ _ _ => rfl) ?_ (by rw [l9, ls9])
    · intro _ u5 u6 M10 f10 w10 l10
      have g91 : M10 91 0 (70 * c + r) = p_to A r := by rw [f10 _ _ _ (by omega), O9 _ _ _ (by omega)]; exact g4
      refine w181_121 hS ⟨⟨by omega, by omega⟩, fun q => by omega, fun _ => ⟨⟨by omega, by omega⟩, hc, ⟨by omega, by omega⟩, fun M11 f11 => ⟨⟨by omega, by omega⟩, hc, ⟨by omega, by omega⟩, fun M12 f12 => ⟨⟨by omega, by omega⟩, ?_⟩⟩⟩⟩
      have c11 : M11 96 0 c = p_NB A (p_ri A r) (p_to A r) := by rw [f11, qU_k (by decide)]; exact w10.2.1
      rw [w10.1] at f11
      rw [c11] at f12
      have O12 : ∀ (k : Nat) (m s : Int), ¬ ((k = 100 ∨ k = 101) ∧ m = 0 ∧ s = r + 1) → M12 k m s = M10 k m s := fun k m s q => by rw [f12, f11]; unfold qU; rw [if_neg (by omega), if_neg (by omega)]
      have w12 : p_mw A c (p_ri A r) (p_to A r) M12 := by
        obtain ⟨y1, y2, y6⟩ := w10
        refine ⟨by rw [O12 _ _ _ (by omega)]; exact y1, by rw [O12 _ _ _ (by omega)]; exact y2, fun i' w' a b e g => ?_⟩
        have := y6 i' w' a b e g
        rw [O12 _ _ _ (by omega)]
        exact ⟨this.1, fun q k k0 k1 => by rw [O12 _ _ _ (by omega), O12 _ _ _ (by omega)]; exact this.2 q k k0 k1⟩
      refine ih (by omega) _ _ _ _ M12 (fun k m s q => by rw [O12 k m s (by omega), f10 k m s (by omega), O9 k m s (by omega), f7 k m s q]) (fun q q0 q1 => ?_) (nextw r M12 r0 r1 w12)
      by_cases hq : q = r + 1
      · subst hq
        have e1 : p_fl A (r + 1) = p_FB A (p_ri A r) (p_to A r) := by unfold p_fl; rw [if_neg (by omega), show r + 1 - 1 = r by omega]
        have e2 : p_nl A (r + 1) = p_NB A (p_ri A r) (p_to A r) := by unfold p_nl; rw [if_neg (by omega), show r + 1 - 1 = r by omega]
        have e3 : p_ls A (r + 1) = p_LS A (p_ri A r) (p_to A r) := by unfold p_ls; rw [if_neg (by omega), show r + 1 - 1 = r by omega]
        rw [e1, e2, e3]
        refine ⟨by rw [O12 _ _ _ (by omega), f10 _ _ _ (by omega)]; exact b9, ?_, ?_, ?_⟩
        · rw [f12, qU_k (by decide), f11, qU_s]
        · rw [f12, qU_s]
        · rw [O12 _ _ _ (by omega)]; exact l10
      · have := s7 q q0 (by omega)
        rw [O12 _ _ _ (by omega), O12 _ _ _ (by omega), O12 _ _ _ (by omega), O12 _ _ _ (by omega), f10 _ _ _ (by omega), f10 _ _ _ (by omega), f10 _ _ _ (by omega), f10 _ _ _ (by omega), O9 _ _ _ (by omega), O9 _ _ _ (by omega), O9 _ _ _ (by omega), O9 _ _ _ (by omega)]
        exact this
    · intro w w0 w1 ih2 wz u5 u6 M10 f10 w10 l10
      have F10 : ∀ (k : Nat) (m s : Int), (k = 70 ∨ k = 71 ∨ k = 88 ∨ k = 91) → M10 k m s = M k m s := fun k m s q => by rw [f10 _ _ _ (by omega), O9 _ _ _ (by omega), f7 _ _ _ (by omega)]
      have rp := hr (p_ri A r) w rin.1.1 rin.1.2 wz (by omega)
      refine t181w hS hA hc ⟨r0, by omega⟩ rin.1 ⟨wz, by omega⟩ (by rw [F10 _ _ _ (by omega), F10 _ _ _ (by omega)]; exact rp) ?_ ?_ w10 l10 (fun M11 v5 v6 f11 w11 l11 => ih2 (by omega) v5 v6 M11 (fun k m s q => by rw [f11 k m s q, f10 k m s q]) w11 l11)
      · rw [f10 _ _ _ (by omega), O9 _ _ _ (by omega)]; exact g1
      · rw [f10 _ _ _ (by omega), O9 _ _ _ (by omega), g4]; exact w1
    · obtain ⟨y1, y2, y6⟩ := w9
      refine ⟨by rw [O9 _ _ _ (by omega)]; exact y1, by rw [O9 _ _ _ (by omega)]; exact y2, fun i' w' a b e g => ?_⟩
      have := y6 i' w' a b e g
      rw [O9 _ _ _ (by omega)]
      exact ⟨this.1, fun q k k0 k1 => by rw [O9 _ _ _ (by omega), O9 _ _ _ (by omega)]; exact this.2 q k k0 k1⟩
  · have at0 := p_row_dec hA ⟨Int.le_refl 0, q⟩
    obtain ⟨i, s, a1, a2, a3, a4, a5⟩ := at0
    have i0 : i = 0 := by
      have := p_row_lt hA (q := 0) (r := 0)
      by_cases hi : i = 0
      · exact hi
      · have e1 := p_okA_6 hA (i := 0) ⟨by omega, by omega⟩
        have e2 := p_rc_at hA 0 0 (by omega) (by omega) (by omega) (by omega)
        have e3 : p_ri A 0 = 0 := rfl
        omega
    have e3 : p_ri A 0 = 0 := rfl
    have e4 : p_rl A 0 = 0 := rfl
    have e5 : p_fr A 0 = 0 := by unfold p_fr; rw [e4]; split <;> rfl
    rw [e3, e5]
    exact ⟨mw0, rfl⟩
  · have hz : cnt = 0 := by
      refine Classical.byContradiction fun z => ?_
      have e1 := p_okA_6 hA (i := 0) ⟨by omega, by omega⟩
      have e2 : p_SR A (0 + 1) ≤ p_SR A cnt := p_SR_le hA ⟨by omega, by omega⟩
      have e3 := p_SR_s (A := A) (i := 0) (by omega)
      have e4 : p_SR A 0 = 0 := rfl
      omega
    rw [hz]; exact mw0
