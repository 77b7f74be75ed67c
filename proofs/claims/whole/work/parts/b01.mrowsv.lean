/-! ===== rows of a chapter in the model, with a bound on their items ===== -/
def m_88 (M M' : qM) : Prop := ∀ s, M' 88 0 s = M 88 0 s ∨ (0 ≤ M' 88 0 s ∧ M' 88 0 s < 10)
theorem m_88_t {M M1 M2 : qM} (h : m_88 M M1) (h' : m_88 M1 M2) : m_88 M M2 := fun s => by
  rcases h' s with a | a
  · rcases h s with b | b
    · exact Or.inl (by rw [a, b])
    · exact Or.inr (by rw [a]; exact b)
  · exact Or.inr a
theorem t179v {d : Nat} {h : qH} (hS : qSe h) {A : pA} {cnt c i s r : Int} {M : qM} {f : qM → Prop} (hA : p_okA A cnt) (hc : 0 ≤ c ∧ c < 3) (hi : 0 ≤ i ∧ i < cnt) (hs : 0 ≤ s ∧ s < A 2 i 0) (h0 : r = p_SR A i + s) (hr70 : r < 70) (hR : p_mR A c r M)
    (H : ∀ M', fr179 c M M' → p_mR A c (r + 1) M' → m_88 M M' → f M') : e179 (d + 2) h c i s (p_fr A r) (p_to A r) M f := by
  have hcn := hA.1
  have at0 := p_rc_at hA i s hi.1 hi.2 hs.1 hs.2
  rw [← h0] at at0
  have r0 : 0 ≤ r := by omega
  have e1 : p_ri A r = i := by unfold p_ri; rw [at0.1]
  have e2 : p_rl A r = s := by unfold p_rl; rw [at0.1]
  have hft := p_fr_to (r := r) hA (by rw [e1]; exact hi) (by rw [e1, e2]; exact hs)
  rw [e1] at hft
  have h6 := p_okA_6 hA hi
  have r1 := hR.1
  -- words of earlier rows are other words
  have other : ∀ q w w', 0 ≤ q → q < r → p_fr A q ≤ w → w < p_to A q → p_fr A r ≤ w' → w' < p_to A r → p_id c (p_ri A q) w ≠ p_id c i w' := by
    intro q w w' q0 q1 a b a' b'
    have bR : p_SR A (i + 1) ≤ p_SR A cnt := p_SR_le hA ⟨by omega, by omega⟩
    have sR := p_SR_s (A := A) hi.1
    have l := p_row_lt hA q0 q1 (by omega)
    have n1 := p_row_in hA (r := q) ⟨q0, by omega⟩
    unfold p_id
    rw [e1] at l
    omega
  refine w179 hS ⟨⟨by omega, by omega⟩, hc, ?_⟩
  rw [r1]
  refine ⟨⟨by omega, by omega⟩, ⟨by omega, by omega⟩, fun M1 f1 => ⟨⟨by omega, by omega⟩, fun M2 f2 => ⟨⟨by omega, by omega⟩, fun M3 f3 => ⟨⟨by omega, by omega⟩, fun M4 f4 => ?_⟩⟩⟩⟩
  have F4 : ∀ (k : Nat) (m x : Int), ¬ (88 ≤ k ∧ k ≤ 91 ∧ m = 0 ∧ x = 70 * c + r) → M4 k m x = M k m x := fun k m x q => by rw [f4, f3, f2, f1]; unfold qU; rw [if_neg (by omega), if_neg (by omega), if_neg (by omega), if_neg (by omega)]
  have N88 : M4 88 0 (70 * c + r) = i := by rw [f4, f3, f2, f1]; unfold qU; grind
  have N89 : M4 89 0 (70 * c + r) = s := by rw [f4, f3, f2, f1]; unfold qU; grind
  have N90 : M4 90 0 (70 * c + r) = p_fr A r := by rw [f4, f3, f2, f1]; unfold qU; grind
  have N91 : M4 91 0 (70 * c + r) = p_to A r := by rw [f4, f3, f2, f1]; unfold qU; grind
  refine q_upto (P := fun w => p_fr A r ≤ w → ∀ M5 : qM, (∀ (k : Nat) (m x : Int), ¬ (k = 93 ∧ m = 0 ∧ p_id c i (p_fr A r) ≤ x ∧ x < p_id c i (p_to A r)) → M5 k m x = M4 k m x) → (∀ y, p_fr A r ≤ y → y < w → M5 93 0 (p_id c i y) = r) → b179_51 d h f c i (.inl s) (.inl (p_fr A r)) (p_to A r) (.inl (70 * c + r)) w M5) (a := p_fr A r) (b := p_to A r) hft.2.1 ?_ ?_ (Int.le_refl _) M4 (fun _ _ _ _ => rfl) (fun y a b => by omega)
  · intro _ M5 f5 w5
    have m87 : M5 87 0 c = r := by rw [f5 _ _ _ (by omega), F4 _ _ _ (by omega)]; exact r1
    refine w179_51 hS ⟨fun q => by omega, fun _ => ⟨hc, ⟨by omega, by omega⟩, hc, fun M6 f6 => ?_⟩⟩
    have O : ∀ (k : Nat) (m x : Int), ¬ (k = 87 ∧ m = 0 ∧ x = c) → M6 k m x = M5 k m x := fun k m x q => by rw [f6]; unfold qU; rw [if_neg q]
    refine H M6 (fun k m x q => ?_) ⟨by rw [f6, qU_s, m87], fun q q0 q1 => ?_⟩ (fun z => ?_)
    · have : p_id c i (p_fr A r) = 200 * c + 20 * i + p_fr A r := by unfold p_id; omega
      have : p_id c i (p_to A r) = 200 * c + 20 * i + p_to A r := by unfold p_id; omega
      rw [O k m x (by omega), f5 k m x (by omega), F4 k m x (by omega)]
    · by_cases hq : q = r
      · rw [hq, O _ _ _ (by omega), O _ _ _ (by omega), O _ _ _ (by omega), O _ _ _ (by omega), f5 _ _ _ (by omega), f5 _ _ _ (by omega), f5 _ _ _ (by omega), f5 _ _ _ (by omega), N88, N89, N90, N91, e1, e2]
        exact ⟨rfl, rfl, rfl, rfl, fun w a b => by rw [O _ _ _ (by omega)]; exact w5 w a b⟩
      · have := hR.2 q q0 (by omega)
        rw [O _ _ _ (by omega), O _ _ _ (by omega), O _ _ _ (by omega), O _ _ _ (by omega), f5 _ _ _ (by omega), f5 _ _ _ (by omega), f5 _ _ _ (by omega), f5 _ _ _ (by omega), F4 _ _ _ (by omega), F4 _ _ _ (by omega), F4 _ _ _ (by omega), F4 _ _ _ (by omega)]
        refine ⟨this.1, this.2.1, this.2.2.1, this.2.2.2.1, fun w a b => ?_⟩
        have ne := fun w' => other q w w' q0 (by omega) a b
        rw [O _ _ _ (by omega), f5 _ _ _ ?_, F4 _ _ _ (by omega)]
        · exact this.2.2.2.2 w a b
        · rintro ⟨_, _, k1, k2⟩
          refine ne (p_id c (p_ri A q) w - 20 * (10 * c + i)) ?_ ?_ ?_
          · unfold p_id at k1 k2 ⊢; omega
          · unfold p_id at k1 k2 ⊢; omega
          · unfold p_id; omega
    · rw [O _ _ _ (by omega), f5 _ _ _ (by omega)]
      by_cases hz : z = 70 * c + r
      · rw [hz, N88]; exact Or.inr ⟨hi.1, by omega⟩
      · exact Or.inl (F4 _ _ _ (by omega))
  · intro w w0 w1 ih _ M5 f5 w5
    have m87 : M5 87 0 c = r := by rw [f5 _ _ _ (by omega), F4 _ _ _ (by omega)]; exact r1
    have pid : p_id c i w = 200 * c + 20 * i + w := by unfold p_id; omega
    refine w179_51 hS ⟨fun _ => t158 hS hc ⟨by omega, by omega⟩ ⟨by omega, by omega⟩ ⟨hc, ⟨by omega, by omega⟩, fun M6 f6 => ⟨⟨by omega, by omega⟩, ih (by omega) M6 ?_ ?_⟩⟩, fun q => by omega⟩
    · intro k m x q
      rw [f6, ← f5 k m x q]
      unfold qU
      have : p_id c i (p_fr A r) = 200 * c + 20 * i + p_fr A r := by unfold p_id; omega
      have : p_id c i (p_to A r) = 200 * c + 20 * i + p_to A r := by unfold p_id; omega
      rw [if_neg (by omega)]
    · intro y y0 y1
      rw [f6, m87]
      by_cases hy : y = w
      · rw [hy, qU_s]
      · rw [qU_l (by unfold p_id; omega)]; exact w5 y y0 (by omega)
theorem t180v {d : Nat} {h : qH} (hS : qSe h) {A : pA} {cnt c : Int} {M : qM} {f : qM → Prop} (hA : p_okA A cnt) (hc : 0 ≤ c ∧ c < 3) (hn : M 64 0 c = cnt) (hr : ∀ i, 0 ≤ i → i < cnt → p_mrep A M c i)
    (H : ∀ M', fr179 c M M' → p_mR A c (p_SR A cnt) M' → m_88 M M' → f M') : e180 (d + 3) h c M f := by
  have hcn := hA.1
  refine w180 hS ⟨hc, fun M1 f1 => ?_⟩
  have F1 : fr179 c M M1 := fun k m x q => by rw [f1]; unfold qU; rw [if_neg (by omega)]
  refine q_upto (P := fun i => 0 ≤ i → ∀ (u3 u4 : qV) (M5 : qM), fr179 c M M5 → p_mR A c (p_SR A i) M5 → m_88 M M5 → b180_9 d h f c i u3 u4 M5) (a := 0) (b := cnt) hcn.1 ?_ ?_ (Int.le_refl _) _ _ M1 F1 ⟨by rw [f1, qU_s]; rfl, fun q a b => by have : p_SR A 0 = 0 := rfl; omega⟩ (fun s => Or.inl (by rw [f1, qU_k (by decide)]))
  · intro _ u3 u4 M5 f5 r5 e5
    exact w180_9 hS ⟨hc, fun q => by rw [f5 _ _ _ (by omega)] at q; omega, fun _ => H M5 f5 r5 e5⟩
  · intro i i0 i1 ih _ u3 u4 M5 f5 r5 e5
    have h6 := p_okA_6 hA ⟨i0, i1⟩
    have bR : p_SR A (i + 1) ≤ p_SR A cnt := p_SR_le hA ⟨by omega, by omega⟩
    have sR := p_SR_s (A := A) i0
    have hb := hA.2.2.2.2
    have mr := hr i i0 i1
    have rep : ∀ M6, fr179 c M M6 → M6 65 0 (10 * c + i) = A 0 i 0 ∧ (A 0 i 0 = 0 → M6 81 0 (10 * c + i) = A 2 i 0) ∧ (∀ s, 0 ≤ s → s < A 2 i 0 → A 0 i 0 = 0 → M6 82 0 (20 * (10 * c + i) + s) = A 3 i s) := fun M6 f6 => ⟨by rw [f6 _ _ _ (by omega)]; exact mr.1, fun q => by rw [f6 _ _ _ (by omega)]; exact mr.2.2.1 q, fun s a b q => by rw [f6 _ _ _ (by omega)]; exact mr.2.2.2.2.1 s a b q⟩
    have row : ∀ s, 0 ≤ s → s < A 2 i 0 → p_ri A (p_SR A i + s) = i ∧ p_rl A (p_SR A i + s) = s := fun s s0 s1 => by
      have at0 := p_rc_at hA i s i0 i1 s0 s1
      exact ⟨by unfold p_ri; rw [at0.1], by unfold p_rl; rw [at0.1]⟩
    have sr0 : 0 ≤ p_SR A i := (p_rc_at hA i 0 i0 i1 (by omega) (by omega)).2
    refine w180_9 hS ⟨hc, fun _ => ⟨⟨by omega, by omega⟩, ⟨by omega, by omega⟩, ⟨by omega, by omega⟩, fun k0 => ?_, fun k0 => ?_⟩, fun q => by rw [f5 _ _ _ (by omega)] at q; omega⟩
    · rw [(rep M5 f5).1] at k0
      rcases (hA.2.1 i i0 i1).2 with ⟨k1, k2, k3, k4⟩ | ⟨k1, k2, k3, k4, k5, k6⟩
      · omega
      · refine q_upto (P := fun s => 0 ≤ s → ∀ (M6 : qM), fr179 c M M6 → p_mR A c (p_SR A i + s) M6 → m_88 M M6 → b180_47 d h f c i (10 * c + i) s M6) (a := 0) (b := A 2 i 0) (by omega) ?_ ?_ (Int.le_refl _) M5 f5 (by rw [show p_SR A i + 0 = p_SR A i by omega]; exact r5) e5
        · intro _ M6 f6 r6 e6
          have rp := (rep M6 f6).2.1 k0
          refine w180_47 hS ⟨⟨by omega, by omega⟩, fun q => by omega, fun _ => ⟨⟨by omega, by omega⟩, ih (by omega) _ _ M6 f6 (by rw [sR]; exact r6) e6⟩⟩
        · intro s s0 s1 ih2 _ M6 f6 r6 e6
          have rp := rep M6 f6
          obtain ⟨e1, e2⟩ := row s s0 s1
          refine w180_47 hS ⟨⟨by omega, by omega⟩, fun _ => ⟨⟨by omega, by omega⟩, fun _ => ⟨fun q => ⟨⟨by omega, by omega⟩, ⟨by omega, by omega⟩, ⟨by omega, by omega⟩, by omega, by omega⟩, fun x hx => ⟨⟨by omega, by omega⟩, ⟨by omega, by omega⟩, ⟨by omega, by omega⟩, ?_⟩⟩, fun q => absurd (by rw [rp.1]; exact k0) q⟩, fun q => by rw [rp.2.1 k0] at q; omega⟩
          have ex : x = p_fr A (p_SR A i + s) := by
            rw [hx]
            unfold p_fr
            rw [e1, e2, if_pos k0]
            split
            · rfl
            · rename_i hs; rw [show 20 * (10 * c + i) + s - 1 = 20 * (10 * c + i) + (s - 1) by omega]; exact rp.2.2 _ (by omega) (by omega) k0
          have ey : M6 82 0 (20 * (10 * c + i) + s) = p_to A (p_SR A i + s) := by
            unfold p_to
            rw [e1, e2, if_pos k0]
            exact rp.2.2 _ s0 s1 k0
          rw [ex, ey]
          exact t179v hS hA hc ⟨i0, i1⟩ ⟨s0, s1⟩ rfl (by omega) r6 (fun M7 f7 r7 e7 => ⟨⟨by omega, by omega⟩, ih2 (by omega) M7 (fun k m x q => by rw [f7 k m x q, f6 k m x q]) (by rw [show p_SR A i + (s + 1) = p_SR A i + s + 1 by omega]; exact r7) (m_88_t e6 e7)⟩)
    · rw [(rep M5 f5).1] at k0
      rcases (hA.2.1 i i0 i1).2 with ⟨k1, k2, k3, k4⟩ | ⟨k1, k2, k3, k4, k5, k6⟩
      · obtain ⟨e1, e2⟩ := row 0 (by omega) (by omega)
        have ex : p_fr A (p_SR A i + 0) = 0 := by unfold p_fr; rw [e1, if_neg (by omega)]
        have ey : p_to A (p_SR A i + 0) = 0 := by unfold p_to; rw [e1, if_neg (by omega)]
        have t := t179v (d := d) hS (f := fun M116 => b180_47 d h f c i (10 * c + i) 0 M116) hA hc ⟨i0, i1⟩ ⟨Int.le_refl 0, by omega⟩ rfl (by omega) (by rw [show p_SR A i + 0 = p_SR A i by omega]; exact r5) (fun M7 f7 r7 e7 => ?_)
        · rw [ex, ey] at t
          exact t
        · have f7' : fr179 c M M7 := fun k m x q => by rw [f7 k m x q, f5 k m x q]
          have rp := rep M7 f7'
          have go : b180_9 d h f c (i + 1) (.inl (10 * c + i)) (.inl 0) M7 := ih (by omega) _ _ M7 f7' (by rw [sR, k2]; rw [show p_SR A i + 0 + 1 = p_SR A i + 1 by omega] at r7; exact r7) (m_88_t e5 e7)
          exact w180_47 hS ⟨⟨by omega, by omega⟩, fun _ => ⟨⟨by omega, by omega⟩, fun q => by omega, fun _ => ⟨⟨by omega, by omega⟩, go⟩⟩, fun _ => ⟨⟨by omega, by omega⟩, go⟩⟩
      · omega
