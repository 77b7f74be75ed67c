/-! ===== the law's floats and lines of notes of a chapter ===== -/
theorem p_line_u {A : pA} {cnt i w t i' w' t' : Int} (h : p_okA A cnt) (hi : 0 ≤ i ∧ i < cnt) (hw : 0 ≤ w ∧ w < A 6 i 0) (hi' : 0 ≤ i' ∧ i' < cnt) (hw' : 0 ≤ w' ∧ w' < A 6 i' 0) (k : A 4 i w = 2) (k' : A 4 i' w' = 2) (ht : 0 ≤ t ∧ t < A 5 i w) (ht' : 0 ≤ t' ∧ t' < A 5 i' w') (e : p_NB A i w + t = p_NB A i' w' + t') : i = i' ∧ w = w' ∧ t = t' := by
  by_cases h1 : i < i' ∨ (i = i' ∧ w < w')
  · have := (p_FB_mono h ⟨hi.1, by omega⟩ hw ⟨hw'.1, Or.inl hi'.2⟩ h1).2
    rw [if_pos k] at this
    omega
  · by_cases h2 : i' < i ∨ (i' = i ∧ w' < w)
    · have := (p_FB_mono h ⟨hi'.1, by omega⟩ hw' ⟨hw.1, Or.inl hi.2⟩ h2).2
      rw [if_pos k'] at this
      omega
    · have e1 : i = i' := by omega
      have e2 : w = w' := by omega
      subst e1 e2
      omega
section
variable {d : Nat} {h : qH} {M : qM} {A : pA} {cnt c D : Int}
/-- how much is ahead of a row -/
theorem L197 {f : Int → qM → Prop} {row kd ls r : Int} (hS : qSe h) (hK : k_ch A cnt c D M) (hr0 : 0 ≤ row ∧ row ≤ p_SR A cnt) (hk : (kd = 2 ∧ ls = 1 ∧ r = p_nl A row) ∨ (kd = 3 ∧ ls = 0 ∧ r = p_fl A row)) (H : f r M) : e197 (d + 2) h c row kd ls M f := by
  obtain ⟨hA, hD, ⟨m2, m19⟩, hr, hi, hw⟩ := id hK
  have ok := hA.2.2.2.1.1
  have c3 := hA.1
  have s16 := hA.2.2.2.2
  refine w197 hS ?_
  refine q_upto (P := fun k => ∀ (z : Int) (u8 u9 u10 : qV), z = (if kd = 2 then p_nl A k else p_fl A k) → b197_6 d h f c row kd ls z k u8 u9 u10 M) (a := 0) (b := row) hr0.1 ?_ ?_ 0 q_u q_u q_u (by split <;> rfl)
  · intro z u8 u9 u10 hz
    refine w197_6 hS ⟨fun q => absurd q (by omega), fun _ => ?_⟩
    have : z = r := by rw [hz]; rcases hk with ⟨a, b, e⟩ | ⟨a, b, e⟩ <;> subst a <;> rw [e] <;> rfl
    rw [this]; exact H
  · intro k k0 k1 ih z u8 u9 u10 hz
    obtain ⟨r1, r2, r3, r4⟩ := k_row hA hr (Int.le_refl _) (q := k) ⟨by omega, by omega⟩
    have fr := k_fr ok (q := k) ⟨by omega, by omega⟩
    have to := k_to (A := A) (q := k) (by omega)
    refine w197_6 hS ⟨fun _ => ⟨⟨by omega, by omega⟩, ⟨by omega, by omega⟩, ⟨by omega, by omega⟩, L195 hS ?_⟩, fun q => absurd (show k < row from k1) q⟩
    rw [r3]
    have inner : ∀ (w z : Int) (u10 : qV), p_fr A k ≤ w → w ≤ p_to A k → z = (if kd = 2 then p_NB A (p_ri A k) w else p_FB A (p_ri A k) w) → b197_30 d h f c row kd ls z k (M 71 0 (20 * c + k)) w u10 M := by
      intro w z u10 w0 w1
      refine q_upto (P := fun w => ∀ (z : Int) (u10 : qV), p_fr A k ≤ w → z = (if kd = 2 then p_NB A (p_ri A k) w else p_FB A (p_ri A k) w) → b197_30 d h f c row kd ls z k (M 71 0 (20 * c + k)) w u10 M) (a := w) (b := p_to A k) w1 ?_ ?_ z u10 w0
      · intro z u10 _ hz
        refine w197_30 hS (L196 hS ⟨fun q => absurd q (by omega), fun _ => ⟨⟨by omega, by omega⟩, ih z _ _ _ ?_⟩⟩)
        rw [to.1, to.2.1]; exact hz
      · intro w w0 w1 ihw z u10 w00 hz
        have wd := k_wd hA hw (i := p_ri A k) (w := w) ⟨r1.1.1, r1.1.2.1⟩ ⟨by omega, by omega⟩
        have ww := hw (p_ri A k) w r1.1.1 r1.1.2.1 (by omega) (by omega)
        have nb := p_NB_s (A := A) (i := p_ri A k) (w := w) (by omega)
        have fb := p_FB_s (A := A) (i := p_ri A k) (w := w) (by omega)
        have ne := p_FB_end ok (i := p_ri A k) (w := w) ⟨r1.1.1, r1.1.2.1⟩ ⟨by omega, by omega⟩
        refine w197_30 hS (L196 hS ⟨fun _ => ⟨⟨by omega, by omega⟩, ?_⟩, fun q => absurd (by rw [r4]; exact w1) q⟩)
        rw [k_a15, r2]
        refine ⟨⟨by omega, by omega⟩, L187 hS wd.1 wd.2.1 (L188 hS ?_)⟩
        rw [ww.1, ww.2]
        rcases hk with ⟨a, b, e⟩ | ⟨a, b, e⟩ <;> subst a <;> subst b
        · rw [if_pos rfl] at hz
          refine ⟨fun k2 => ⟨fun q => absurd q (by decide), fun _ => ?_⟩, fun y hy => ⟨⟨by omega, by omega⟩, ihw y _ (by omega) ?_⟩⟩
          · have := wd.2.2 k2
            exact ⟨by omega, by omega⟩
          · rw [hy, if_pos rfl, nb]
            by_cases k2 : A 4 (p_ri A k) w = 2
            · rw [if_pos k2, if_pos k2, if_neg (by decide)]; omega
            · rw [if_neg k2, if_neg k2]; omega
        · rw [if_neg (by decide)] at hz
          refine ⟨fun k2 => ⟨fun _ => ⟨by omega, by omega⟩, fun q => absurd rfl q⟩, fun y hy => ⟨⟨by omega, by omega⟩, ihw y _ (by omega) ?_⟩⟩
          rw [hy, if_neg (show ¬ (3 : Int) = 2 by decide), fb]
          by_cases k2 : A 4 (p_ri A k) w = 3
          · rw [if_pos k2, if_pos k2, if_pos rfl]; omega
          · rw [if_neg k2, if_neg k2]; omega
    refine inner (p_fr A k) z u10 (Int.le_refl _) r1.2.2.1 ?_
    rw [fr.1, fr.2.1]; exact hz
/-- floats and lines of notes so far -/
def k_fz (A : pA) (cnt c F N : Int) (M : qM) : Prop := (∀ i w, 0 ≤ i → i < cnt → 0 ≤ w → w < A 6 i 0 → A 4 i w = 3 → p_FB A i w < F → M 72 0 (4 * c + p_FB A i w) = w + 16 * i) ∧ (∀ i w t, 0 ≤ i → i < cnt → 0 ≤ w → w < A 6 i 0 → A 4 i w = 2 → 0 ≤ t → t < A 5 i w → p_NB A i w + t < N → M 73 0 (12 * c + p_NB A i w + t) = t + 4 * w + 64 * i) ∧ M 76 0 (22 + c) = F ∧ M 76 0 (25 + c) = N
def k_fm (c sn : Int) (M M' : qM) : Prop := ∀ (k : Nat) (o s : Int), ¬ (k = 72 ∧ o = 0 ∧ 4 * c ≤ s ∧ s < 4 * c + 4) → ¬ (k = 73 ∧ o = 0 ∧ 12 * c ≤ s ∧ s < 12 * c + 12) → ¬ (k = 76 ∧ o = 0 ∧ (s = 22 + c ∨ s = 25 + c)) → ¬ (k = 96 ∧ o = sn ∧ 1 ≤ s) → M' k o s = M k o s
theorem k_fm_ch {sn : Int} {M' : qM} (h : k_ch A cnt c D M) (f : k_fm c sn M M') : k_ch A cnt c D M' := by
  have := h.1.1
  exact k_ch_cg h (fun s => f _ _ _ (by omega) (by omega) (by omega) (by omega)) (fun s => f _ _ _ (by omega) (by omega) (by omega) (by omega)) (fun s => f _ _ _ (by omega) (by omega) (by omega) (by omega)) (f _ _ _ (by omega) (by omega) (by omega) (by omega)) (f _ _ _ (by omega) (by omega) (by omega) (by omega))
theorem k_fm_t {sn : Int} {M1 M2 : qM} (h : k_fm c sn M M1) (h' : k_fm c sn M1 M2) : k_fm c sn M M2 := fun k o s a b e g => by rw [h' k o s a b e g, h k o s a b e g]
/-- one float more -/
theorem k_fz_f {F N i w : Int} {M1 M2 : qM} (hA : k_sz A cnt c) (h : k_fz A cnt c F N M) (hi : 0 ≤ i ∧ i < cnt) (hw : 0 ≤ w ∧ w < A 6 i 0) (k3 : A 4 i w = 3) (hF : F = p_FB A i w) (e1 : M1 = qU M 72 0 (4 * c + F) (w + 16 * i)) (e2 : M2 = qU M1 76 0 (22 + c) (F + 1)) : k_fz A cnt c (F + 1) N M2 := by
  have c3 := hA.1
  have ok := hA.2.2.2.1.1
  refine ⟨fun i' w' a b e g k' l => ?_, fun i' w' t a b e g k' t0 t1 l => ?_, ?_, ?_⟩
  · rw [e2, qU_k (by decide), e1]
    by_cases z : p_FB A i' w' = F
    · obtain ⟨r1, r2⟩ := p_float_u ok hi hw ⟨a, b⟩ ⟨e, g⟩ k3 k' (by rw [z, hF])
      subst r1 r2
      rw [z, qU_s]
    · rw [qU_l (by omega)]
      exact h.1 i' w' a b e g k' (by omega)
  · rw [e2, qU_k (by decide), e1, qU_k (by decide)]
    exact h.2.1 i' w' t a b e g k' t0 t1 l
  · rw [e2, qU_s]
  · rw [e2, qU_l (by omega), e1, qU_k (by decide)]
    exact h.2.2.2
theorem k_fz_n {F N i w t : Int} {M1 M2 : qM} (hA : k_sz A cnt c) (h : k_fz A cnt c F N M) (hi : 0 ≤ i ∧ i < cnt) (hw : 0 ≤ w ∧ w < A 6 i 0) (k2 : A 4 i w = 2) (ht : 0 ≤ t ∧ t < A 5 i w) (hN : N = p_NB A i w + t) (e1 : M1 = qU M 73 0 (12 * c + N) (t + 4 * w + 64 * i)) (e2 : M2 = qU M1 76 0 (25 + c) (N + 1)) : k_fz A cnt c F (N + 1) M2 := by
  have c3 := hA.1
  have ok := hA.2.2.2.1.1
  refine ⟨fun i' w' a b e g k' l => ?_, fun i' w' t' a b e g k' t0 t1 l => ?_, ?_, ?_⟩
  · rw [e2, qU_k (by decide), e1, qU_k (by decide)]
    exact h.1 i' w' a b e g k' l
  · rw [e2, qU_k (by decide), e1]
    by_cases z : p_NB A i' w' + t' = N
    · obtain ⟨r1, r2, r3⟩ := p_line_u ok hi hw ⟨a, b⟩ ⟨e, g⟩ k2 k' ht ⟨t0, t1⟩ (by rw [z, hN])
      subst r1 r2 r3
      rw [show 12 * c + p_NB A i w + t = 12 * c + N by omega, qU_s]
    · rw [qU_l (by omega)]
      exact h.2.1 i' w' t' a b e g k' t0 t1 (by omega)
  · rw [e2, qU_l (by omega), e1, qU_k (by decide)]
    exact h.2.2.1
  · rw [e2, qU_s]
end
section
variable {d : Nat} {h : qH} {f : Int → qH → qM → Prop} {A : pA} {cnt c D kp sn nc : Int}
/-- the words of all rows, and what is ahead of each row -/
theorem k_sums (hS : qSe h) : ∀ (tt : Nat) (row : Int) (M : qM), p_SR A cnt - row ≤ tt → (0 ≤ row ∧ row ≤ p_SR A cnt) → k_ch A cnt c D M → k_fz A cnt c (p_fl A row) (p_nl A row) M → (∀ r, 0 ≤ r → r ≤ row → M 96 sn r = p_nl A r + 16 * p_fl A r) → (∀ M', k_fm c sn M M' → k_fz A cnt c (p_fl A (p_SR A cnt)) (p_nl A (p_SR A cnt)) M' → (∀ r, 0 ≤ r → r ≤ p_SR A cnt → M' 96 sn r = p_nl A r + 16 * p_fl A r) → ∀ u17 u18 u19 u20 u21 u22 u23 u24 u25 : qV, b205_43 d h f c kp sn nc (p_SR A cnt) (p_SR A cnt) u17 u18 u19 u20 u21 u22 u23 u24 u25 M') → ∀ u17 u18 u19 u20 u21 u22 u23 u24 u25 : qV, b205_43 d h f c kp sn nc (p_SR A cnt) row u17 u18 u19 u20 u21 u22 u23 u24 u25 M := by
  intro tt
  induction tt with
  | zero =>
    intro row M ht hrow hK hz hs H u17 u18 u19 u20 u21 u22 u23 u24 u25
    have e : row = p_SR A cnt := by omega
    subst e
    exact H M (fun _ _ _ _ _ _ _ => rfl) hz hs _ _ _ _ _ _ _ _ _
  | succ tt ih =>
    intro row M ht hrow hK hz hs H u17 u18 u19 u20 u21 u22 u23 u24 u25
    by_cases e : row = p_SR A cnt
    · subst e
      exact H M (fun _ _ _ _ _ _ _ => rfl) hz hs _ _ _ _ _ _ _ _ _
    obtain ⟨hA, hD, ⟨m2, m19⟩, hr, hi, hw⟩ := id hK
    have ok := hA.2.2.2.1.1
    have c3 := hA.1
    have s16 := hA.2.2.2.2
    obtain ⟨r1, r2, r3, r4⟩ := k_row hA hr (Int.le_refl _) (q := row) ⟨by omega, by omega⟩
    have fr := k_fr ok (q := row) ⟨by omega, by omega⟩
    have to := k_to (A := A) (q := row) (by omega)
    refine w205_43 hS ⟨fun _ => ⟨⟨by omega, by omega⟩, ⟨by omega, by omega⟩, ⟨by omega, by omega⟩, L195 hS ?_⟩, fun q => absurd (show row < p_SR A cnt by omega) q⟩
    rw [r3]
    have i5 := r1.1.2.2
    -- the words of the row
    have inner : ∀ (w : Int) (M1 : qM), p_fr A row ≤ w → w ≤ p_to A row → k_fm c sn M M1 → M1 71 0 (20 * c + row) = M 71 0 (20 * c + row) → k_fz A cnt c (p_FB A (p_ri A row) w) (p_NB A (p_ri A row) w) M1 → (∀ r, 0 ≤ r → r ≤ row → M1 96 sn r = p_nl A r + 16 * p_fl A r) → ∀ u19 u20 u21 u22 u23 u24 u25 : qV, b205_69 d h f c kp sn nc (p_SR A cnt) row (M 71 0 (20 * c + row)) w u19 u20 u21 u22 u23 u24 u25 M1 := by
      intro w M1 w0 w1
      refine q_upto (P := fun w => ∀ M1 : qM, p_fr A row ≤ w → k_fm c sn M M1 → M1 71 0 (20 * c + row) = M 71 0 (20 * c + row) → k_fz A cnt c (p_FB A (p_ri A row) w) (p_NB A (p_ri A row) w) M1 → (∀ r, 0 ≤ r → r ≤ row → M1 96 sn r = p_nl A r + 16 * p_fl A r) → ∀ u19 u20 u21 u22 u23 u24 u25 : qV, b205_69 d h f c kp sn nc (p_SR A cnt) row (M 71 0 (20 * c + row)) w u19 u20 u21 u22 u23 u24 u25 M1) (a := w) (b := p_to A row) w1 ?_ ?_ M1 w0
      · intro M1 _ fm1 e71 hz1 hs1 u19 u20 u21 u22 u23 u24 u25
        have K1 := k_fm_ch hK fm1
        have mono := p_row_mono hA.2.2.2.1 (a := row + 1) (b := row + 1) ⟨by omega, by omega, by omega⟩
        have ne := p_FB_end ok (i := p_ri A row) (w := p_to A row) ⟨r1.1.1, r1.1.2.1⟩ ⟨by omega, by omega⟩
        rw [← to.1, ← to.2.1] at hz1 ne
        refine w205_69 hS (L196 hS ⟨fun q => absurd q (by omega), fun _ => ⟨⟨by omega, by omega⟩, ⟨by omega, by omega⟩, L197 hS K1 ⟨by omega, by omega⟩ (Or.inl ⟨rfl, rfl, rfl⟩) ⟨⟨by omega, by omega⟩, L197 hS K1 ⟨by omega, by omega⟩ (Or.inr ⟨rfl, rfl, rfl⟩) ⟨⟨by omega, by omega⟩, ⟨by omega, by omega⟩, ⟨by omega, by omega⟩, fun M2 f2 => ⟨⟨by omega, by omega⟩, ?_⟩⟩⟩⟩⟩)
        have O2 : ∀ (k : Nat) (o s : Int), ¬ (k = 96 ∧ o = sn ∧ s = row + 1) → M2 k o s = M1 k o s := fun k o s z => by rw [f2]; unfold qU; rw [if_neg z]
        have fm2 : k_fm c sn M M2 := k_fm_t fm1 (fun k o s a b e g => O2 k o s (fun y => g ⟨y.1, y.2.1, by omega⟩))
        refine ih (row + 1) M2 (by omega) ⟨by omega, by omega⟩ (k_fm_ch hK fm2) ⟨fun i w a b e g k3 l => ?_, fun i w t a b e g k3 t0 t1 l => ?_, ?_, ?_⟩ (fun r a b => ?_) (fun M3 fm3 hz3 hs3 => H M3 (k_fm_t fm2 fm3) hz3 hs3) _ _ _ _ _ _ _ _ _
        · rw [O2 _ _ _ (by omega)]; exact hz1.1 i w a b e g k3 l
        · rw [O2 _ _ _ (by omega)]; exact hz1.2.1 i w t a b e g k3 t0 t1 l
        · rw [O2 _ _ _ (by omega)]; exact hz1.2.2.1
        · rw [O2 _ _ _ (by omega)]; exact hz1.2.2.2
        · by_cases z : r = row + 1
          · subst z; rw [f2, qU_s]
          · rw [O2 _ _ _ (by omega)]; exact hs1 r a (by omega)
      · intro w w0 w1 ihw M1 w00 fm1 e71 hz1 hs1 u19 u20 u21 u22 u23 u24 u25
        have K1 := k_fm_ch hK fm1
        obtain ⟨_, _, _, hr1, hi1, hw1⟩ := id K1
        have wd := k_wd hA hw1 (i := p_ri A row) (w := w) ⟨r1.1.1, r1.1.2.1⟩ ⟨by omega, by omega⟩
        have ww := hw1 (p_ri A row) w r1.1.1 r1.1.2.1 (by omega) (by omega)
        have nb := p_NB_s (A := A) (i := p_ri A row) (w := w) (by omega)
        have fb := p_FB_s (A := A) (i := p_ri A row) (w := w) (by omega)
        have ne := p_FB_end ok (i := p_ri A row) (w := w) ⟨r1.1.1, r1.1.2.1⟩ ⟨by omega, by omega⟩
        have ne1 := p_FB_end ok (i := p_ri A row) (w := w + 1) ⟨r1.1.1, r1.1.2.1⟩ ⟨by omega, by omega⟩
        refine w205_69 hS (L196 hS ⟨fun _ => ⟨⟨by omega, by omega⟩, ?_⟩, fun q => absurd (by rw [r4]; exact w1) q⟩)
        rw [k_a15, r2]
        refine ⟨⟨by omega, by omega⟩, L187 hS wd.1 wd.2.1 (L188 hS ?_)⟩
        rw [ww.1, hz1.2.2.1]
        generalize hcd : k_cd M1 (6 * c + p_ri A row) w = cd at *
        -- the lines of a note
        have lines : ∀ (t : Int) (M2 : qM), 0 ≤ t → ((A 4 (p_ri A row) w = 2 ∧ t ≤ A 5 (p_ri A row) w) ∨ (¬ A 4 (p_ri A row) w = 2 ∧ t = 0)) → k_fm c sn M M2 → M2 71 0 (20 * c + row) = M 71 0 (20 * c + row) → k_fz A cnt c (p_FB A (p_ri A row) (w + 1)) (p_NB A (p_ri A row) w + t) M2 → (∀ r, 0 ≤ r → r ≤ row → M2 96 sn r = p_nl A r + 16 * p_fl A r) → ∀ u21 u22 u23 u24 u25 : qV, b205_148 d h f c kp sn nc (p_SR A cnt) row (M 71 0 (20 * c + row)) w cd t u21 u22 u23 u24 u25 M2 := by
          by_cases k2 : A 4 (p_ri A row) w = 2
          · intro t M2 t0 ht
            rw [if_pos k2] at nb
            refine q_upto (P := fun t => ∀ M2 : qM, 0 ≤ t → k_fm c sn M M2 → M2 71 0 (20 * c + row) = M 71 0 (20 * c + row) → k_fz A cnt c (p_FB A (p_ri A row) (w + 1)) (p_NB A (p_ri A row) w + t) M2 → (∀ r, 0 ≤ r → r ≤ row → M2 96 sn r = p_nl A r + 16 * p_fl A r) → ∀ u21 u22 u23 u24 u25 : qV, b205_148 d h f c kp sn nc (p_SR A cnt) row (M 71 0 (20 * c + row)) w cd t u21 u22 u23 u24 u25 M2) (a := t) (b := A 5 (p_ri A row) w) (by omega) ?_ ?_ M2 t0
            · intro M2 _ fm2 e2 hz2 hs2 u21 u22 u23 u24 u25
              refine w205_148 hS ⟨fun q => absurd q (by omega), fun _ => ⟨⟨by omega, by omega⟩, ihw M2 (by omega) fm2 e2 (by rw [nb]; exact hz2) hs2 _ _ _ _ _ _ _⟩⟩
            · intro t t0 t1 iht M2 t00 fm2 e2 hz2 hs2 u21 u22 u23 u24 u25
              refine w205_148 hS ⟨fun _ => L188 hS ⟨fun _ => ?_, fun q => absurd (by rw [ww.1]; exact k2) q⟩, fun q => absurd (show t < cd / 128 by rw [ww.2]; exact t1) q⟩
              rw [k_a15, r2, hz2.2.2.2]
              have w15 := r1.2.2.2.2
              refine ⟨⟨by omega, by omega⟩, ⟨by omega, by omega⟩, ⟨by omega, by omega⟩, ⟨by omega, by omega⟩, ⟨by omega, by omega⟩, ⟨by omega, by omega⟩, ⟨by omega, by omega⟩, ⟨by omega, by omega⟩, ⟨by omega, by omega⟩, fun M3 f3 => ⟨⟨by omega, by omega⟩, ⟨by omega, by omega⟩, ?_⟩⟩
              have e3 : M3 76 0 (25 + c) = p_NB A (p_ri A row) w + t := by rw [f3, qU_k (by decide)]; exact hz2.2.2.2
              rw [e3]
              refine ⟨⟨by omega, by omega⟩, ⟨by omega, by omega⟩, fun M4 f4 => ⟨⟨by omega, by omega⟩, ?_⟩⟩
              have O4 : ∀ (k : Nat) (o s : Int), ¬ (k = 73 ∧ o = 0 ∧ 12 * c ≤ s ∧ s < 12 * c + 12) → ¬ (k = 76 ∧ o = 0 ∧ s = 25 + c) → M4 k o s = M2 k o s := fun k o s z1 z2 => by
                rw [f4, f3]; unfold qU; rw [if_neg z2, if_neg (fun y => z1 ⟨y.1, y.2.1, by omega, by omega⟩)]
              refine iht M4 (by omega) (k_fm_t fm2 (fun k o s a b e g => O4 k o s b (fun y => e ⟨y.1, y.2.1, Or.inr y.2.2⟩))) (by rw [O4 _ _ _ (by omega) (by omega)]; exact e2) ?_ (fun r a b => by rw [O4 _ _ _ (by omega) (by omega)]; exact hs2 r a b) _ _ _ _ _
              have := k_fz_n (t := t) hA hz2 (i := p_ri A row) (w := w) ⟨r1.1.1, r1.1.2.1⟩ ⟨by omega, by omega⟩ k2 ⟨t00, t1⟩ rfl f3 f4
              rw [show p_NB A (p_ri A row) w + (t + 1) = p_NB A (p_ri A row) w + t + 1 by omega]
              exact this
          · intro t M2 t0 ht fm2 e2 hz2 hs2 u21 u22 u23 u24 u25
            rw [if_neg k2] at nb
            have et : t = 0 := by omega
            subst et
            refine w205_148 hS ⟨fun _ => L188 hS ⟨fun q => absurd (by rw [ww.1] at q; exact q) k2, fun _ => ⟨⟨by omega, by omega⟩, ihw M2 (by omega) fm2 e2 (by rw [nb]; exact hz2) hs2 _ _ _ _ _ _ _⟩⟩, fun _ => ⟨⟨by omega, by omega⟩, ihw M2 (by omega) fm2 e2 (by rw [nb]; exact hz2) hs2 _ _ _ _ _ _ _⟩⟩
        have w15 := r1.2.2.2.2
        refine ⟨fun k3 => ?_, fun k3 => ?_⟩
        · rw [if_pos k3] at fb
          refine ⟨⟨by omega, by omega⟩, ⟨by omega, by omega⟩, ⟨by omega, by omega⟩, ⟨by omega, by omega⟩, ⟨by omega, by omega⟩, ⟨by omega, by omega⟩, ⟨by omega, by omega⟩, fun M3 f3 => ⟨⟨by omega, by omega⟩, ⟨by omega, by omega⟩, ?_⟩⟩
          have e3 : M3 76 0 (22 + c) = p_FB A (p_ri A row) w := by rw [f3, qU_k (by decide)]; exact hz1.2.2.1
          rw [e3]
          refine ⟨⟨by omega, by omega⟩, ⟨by omega, by omega⟩, fun M4 f4 => ?_⟩
          have O4 : ∀ (k : Nat) (o s : Int), ¬ (k = 72 ∧ o = 0 ∧ 4 * c ≤ s ∧ s < 4 * c + 4) → ¬ (k = 76 ∧ o = 0 ∧ s = 22 + c) → M4 k o s = M1 k o s := fun k o s z1 z2 => by
            rw [f4, f3]; unfold qU; rw [if_neg z2, if_neg (fun y => z1 ⟨y.1, y.2.1, by omega, by omega⟩)]
          have hz4 := k_fz_f hA hz1 (i := p_ri A row) (w := w) ⟨r1.1.1, r1.1.2.1⟩ ⟨by omega, by omega⟩ k3 rfl f3 f4
          refine lines 0 M4 (Int.le_refl _) (Or.inr ⟨by omega, rfl⟩) (k_fm_t fm1 (fun k o s a b e g => O4 k o s a (fun y => e ⟨y.1, y.2.1, Or.inl y.2.2⟩))) (by rw [O4 _ _ _ (by omega) (by omega)]; exact e71) (by rw [fb, Int.add_zero]; exact hz4) (fun r a b => by rw [O4 _ _ _ (by omega) (by omega)]; exact hs1 r a b) _ _ _ _ _
        · rw [if_neg k3] at fb
          refine lines 0 M1 (Int.le_refl _) ?_ fm1 e71 (by rw [fb, Int.add_zero, Int.add_zero]; exact hz1) hs1 _ _ _ _ _
          by_cases k2 : A 4 (p_ri A row) w = 2
          · have := wd.2.2 k2
            exact Or.inl ⟨k2, by omega⟩
          · exact Or.inr ⟨k2, rfl⟩
    refine inner (p_fr A row) M (Int.le_refl _) r1.2.2.1 (fun _ _ _ _ _ _ _ => rfl) rfl ?_ hs _ _ _ _ _ _ _
    rw [fr.1, fr.2.1]; exact hz
end
