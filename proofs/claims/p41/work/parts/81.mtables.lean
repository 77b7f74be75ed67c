/-! ===== the model's rows hold the tables; Pages.tell; Edition.hasSameItem, hasSameRow ===== -/
theorem p_T_m {A : pA} {cnt D c : Int} {M : qM} (h : p_okB A cnt) (hc : 0 ≤ c ∧ c < 3) (hR : p_mR A c (p_SR A cnt) M) (hS : p_mS A (p_SR A cnt) M) (hw : p_mw A c cnt 0 M) (hrep : ∀ i, 0 ≤ i → i < cnt → p_mrep A M c i) (hb : ∀ k, 0 ≤ M 81 0 k ∧ M 81 0 k ≤ 1000) (hD : M 11 0 2 = D) : g_mT (p_T A cnt D) c M := by
  have hcn := h.1.1
  have g1 : p_FB A cnt 0 = p_SF A cnt := by unfold p_FB p_PF; rw [p_sum_0]; omega
  have g2 : p_NB A cnt 0 = p_SN A cnt := by unfold p_NB p_PN; rw [p_sum_0]; omega
  obtain ⟨w1, w2, w3⟩ := hw
  refine ⟨hc, hR.1, hD, by rw [w1, g1]; rfl, by rw [w2, g2]; rfl, fun r a b => hS r a b, fun k k0 k1 => ?_, fun r r0 r1 => ?_⟩
  · have k1' : k < p_SF A cnt := k1
    obtain ⟨i, w, a1, a2, a3, a4⟩ := p_float_ex h.1 (k := k) ⟨k0, k1'⟩
    have x := (w3 i w a1.1 a2.1 a2.2 (Or.inl a1.2)).1 a3
    rw [a4] at x
    have h6 := p_okA_6 h.1 a1
    have rp := ((hrep i a1.1 a1.2).2.2.2.2.2 w a2.1 (by omega)).2
    have ev := p_fv_p h.1 a1 a2 a3
    rw [a4] at ev
    rw [x, rp]
    refine ⟨by unfold p_id; omega, ?_⟩
    show p_hi A cnt (k + 1) = p_hi A cnt k + A 5 i w
    rw [← ev]
    exact p_sum_s k0
  · have x := hR.2 r r0 r1
    have ri := p_row_in h.1 ⟨r0, r1⟩
    have rp := hrep (p_ri A r) ri.1.1 ri.1.2
    rw [x.1, x.2.1, rp.1, rp.2.1]
    refine ⟨⟨ri.1.1, by omega⟩, by have := hb (10 * c + p_ri A r); omega, ?_, ?_, ?_⟩
    · show (if 0 ≤ r ∧ r < p_SR A cnt then p_nd A r else 0) = _
      rw [if_pos ⟨r0, r1⟩]
      rfl
    · show p_l1 A r = _
      unfold p_l1
      by_cases k : A 0 (p_ri A r) 0 = 0
      · rw [if_pos k, rp.2.2.1 k]
      · rw [if_neg k]
        rcases (h.1.2.1 _ ri.1.1 ri.1.2).2 with ⟨k1, k2, _⟩ | ⟨k1, _⟩
        · rw [k2, if_pos (Int.le_refl _)]
        · exact absurd k1 k
    · show p_f1 A r = _
      unfold p_f1
      by_cases k : A 0 (p_ri A r) 0 = 0
      · rw [if_pos k, rp.2.2.1 k]
      · rw [if_neg k]
        rcases (h.1.2.1 _ ri.1.1 ri.1.2).2 with ⟨k1, k2, _⟩ | ⟨k1, _⟩
        · rw [k2, if_pos (Int.le_refl _)]
        · exact absurd k1 k
theorem t29 {d : Nat} {h : qH} (hS : qSe h) {e e' c i : Int} {M : qM} {F : Int → qM → Prop} (hc : 0 ≤ c ∧ c < 3) (hi : 0 ≤ i ∧ i < 10) (H : F (if M 23 e (c * 10 + i) = M 23 e' (c * 10 + i) then 1 else 0) M) : e29 (d + 1) h e e' c i M F :=
  w29 hS ⟨⟨by omega, by omega⟩, ⟨by omega, by omega⟩, ⟨by omega, by omega⟩, ⟨by omega, by omega⟩, ⟨by omega, by omega⟩, ⟨by omega, by omega⟩, fun x hx => ⟨by rw [hx]; split <;> omega, by rw [hx]; exact H⟩⟩
/-- a row of e and one of e' are the same -/
def p_srow (M : qM) (e e' c r r' : Int) : Prop := r < M 9 (1 + 3 * e + c) 0 ∧ r' < M 9 (1 + 3 * e' + c) 0 ∧ M 48 (1 + 3 * e + c) r = M 48 (1 + 3 * e' + c) r' ∧ M 49 (1 + 3 * e + c) r = M 49 (1 + 3 * e' + c) r' ∧ M 50 (1 + 3 * e + c) r = M 50 (1 + 3 * e' + c) r' ∧ M 23 e (c * 10 + M 48 (1 + 3 * e + c) r) = M 23 e' (c * 10 + M 48 (1 + 3 * e + c) r)
theorem t30 {d : Nat} {h : qH} (hS : qSe h) {e e' c r r' : Int} {M : qM} {F : Int → qM → Prop} (hc : 0 ≤ c ∧ c < 3) (hr : 0 ≤ r ∧ r < 70) (hr' : 0 ≤ r' ∧ r' < 70) (hi : r < M 9 (1 + 3 * e + c) 0 → 0 ≤ M 48 (1 + 3 * e + c) r ∧ M 48 (1 + 3 * e + c) r < 10)
    (H1 : p_srow M e e' c r r' → F 1 M) (H0 : ¬ p_srow M e e' c r r' → F 0 M) : e30 (d + 2) h e e' c r r' M F := by
  refine w30 hS ⟨hc, hc, fun k1 => ⟨fun k2 => ⟨hr, hr', fun k3 => ⟨hr, hr', fun k4 => ⟨hr, hr', fun k5 => ⟨hr, t29 hS hc (hi k1) ?_⟩, fun k5 => H0 (fun q => k5 q.2.2.2.2.1)⟩, fun k4 => H0 (fun q => k4 q.2.2.2.1)⟩, fun k3 => H0 (fun q => k3 q.2.2.1)⟩, fun k2 => H0 (fun q => k2 q.2.1)⟩, fun k1 => H0 (fun q => k1 q.1)⟩
  by_cases k6 : M 23 e (c * 10 + M 48 (1 + 3 * e + c) r) = M 23 e' (c * 10 + M 48 (1 + 3 * e + c) r)
  · rw [if_pos k6]
    intro y hy
    rw [if_neg (by decide)] at hy
    rw [hy]
    exact ⟨Or.inr rfl, H1 ⟨k1, k2, k3, k4, k5, k6⟩⟩
  · rw [if_neg k6]
    intro y hy
    rw [if_pos rfl] at hy
    rw [hy]
    exact ⟨Or.inl rfl, H0 (fun q => k6 q.2.2.2.2.2)⟩
/-- what a page that was printed tells: its floats -/
theorem t86_1 {d : Nat} {h : qH} (hS : qSe h) {n k : Int} {M : qM} {F : Int → qM → Prop} (hk : 0 ≤ k ∧ k < 86) (hb : (0 ≤ M 44 n k ∧ M 44 n k ≤ 4) ∧ (0 < k → 0 ≤ M 44 n (k - 1) ∧ M 44 n (k - 1) ≤ 4)) (H : F (M 44 n k - (if k ≤ 0 then 0 else M 44 n (k - 1))) M) : e86 (d + 2) h n k 1 M F := by
  refine qJ.body (Nat.le_of_ble_eq_true rfl) (qWq (fun _ => false) 60 ?_)
  refine And.intro (fun q => absurd q (by decide)) (fun _ => ?_)
  refine And.intro (hS.1 _ _ _ rfl) (And.intro hk ?_)
  have hq : qIn (M 44 n k - (if k ≤ 0 then 0 else M 44 n (k - 1))) := by
    split
    · exact ⟨by omega, by omega⟩
    · have := hb.2 (by omega); exact ⟨by omega, by omega⟩
  exact And.intro rfl (qEi.go (t83 (d := d) (F := fun v M' => qIn (M 44 n k - v) ∧ F (M 44 n k - v) M') hS ⟨by omega, by omega⟩ ⟨hq, H⟩) (Nat.le_refl _) (fun v M' hv => And.intro hv.1 ⟨_, _, rfl, rfl, hv.2⟩))
