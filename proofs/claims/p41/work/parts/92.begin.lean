/-! ===== Composer.beginChapter ===== -/
def fr18 (e c : Int) (M M' : qM) : Prop := ∀ (k : Nat) (m s : Int), ¬ (k = 7 ∧ m = 0 ∧ 3 ≤ s ∧ s ≤ 9) → ¬ (m = 1 + 3 * e + c ∧ ((k = 9 ∧ (s = 0 ∨ s = 12 ∨ s = 16 ∨ s = 17)) ∨ (48 ≤ k ∧ k ≤ 61))) → ¬ (m = 0 + 3 * e + c ∧ ((k = 8 ∧ 0 ≤ s ∧ s ≤ 3) ∨ (43 ≤ k ∧ k ≤ 47))) → M' k m s = M k m s
theorem t18 {d : Nat} {h : qH} (hS : qSe h) {A : pA} {O : pT} {cnt D c e x wo co : Int} {M : qM} {F : qM → Prop} (hA : p_okB A cnt) (hD : 8 ≤ D ∧ D ≤ 14) (hc : 0 ≤ c ∧ c < 3) (he : 0 ≤ e ∧ e < 1000) (h7 : M 2 0 7 = e + 1) (h6 : 0 < M 2 0 6) (hcnt : M 1 c 1 = cnt) (hrep : ∀ i, 0 ≤ i → i < cnt → p_rep A M (1 + 10 * c + i) i) (hdep : M 3 e 1 = D)
    (h0 : M 54 (1 + 3 * e + c) 0 = 0 ∧ M 55 (1 + 3 * e + c) 0 = 0 ∧ M 56 (1 + 3 * e + c) 0 = 0 ∧ M 57 (1 + 3 * e + c) 0 = 0 ∧ M 61 (1 + 3 * e + c) 0 = 0)
    (hold : M 2 0 8 = 0 ∨ ∃ e', (0 ≤ e' ∧ e ≠ e') ∧ M 2 0 8 = e' + 1 ∧ g_cP O co (0 + 3 * e' + c) M ∧ M 8 (0 + 3 * e' + c) 2 = wo ∧ g_old O wo ∧ wo ≤ co)
    (H : ∀ M' P' c', fr18 e c M M' → p_rows A cnt (1 + 3 * e + c) M' → g_cM (p_T A cnt D) (1 + 3 * e + c) M' → M' 8 (0 + 3 * e + c) 0 = x → g_cP P' c' (0 + 3 * e + c) M' → M' 8 (0 + 3 * e + c) 2 = c' → M' 8 (0 + 3 * e + c) 3 = p_sum (g_kc (p_T A cnt D) P') c' → g_some (p_T A cnt D) P' c' → ((M 2 0 8 = 0 ∧ c' = 0) ∨ ∃ e', (0 ≤ e' ∧ M 2 0 8 = e' + 1) ∧ g_keepP (p_T A cnt D) O (fun r => p_srow M' e e' c r r) wo (M' 3 e' 0 = M' 3 e 0 ∧ M' 3 e' 1 = M' 3 e 1 ∧ M' 8 (0 + 3 * e' + c) 0 = x) P' c') → F M') : e18 (d + 5) h c x M F := by
  have hT := p_T_tab (D := D) hA hD
  have y7 : M 2 0 7 - 1 = e := by omega
  refine w18 hS ⟨fun q => by omega, fun _ => ⟨hc, fun q => by omega, fun _ => ⟨hc, ?_⟩, fun q => by omega⟩, fun q => by omega⟩
  rw [y7]
  refine t88 hS hA.1 hcnt hrep h0 (fun M1 O1 R1 => ?_)
  have e71 : M1 2 0 7 = e + 1 := by rw [O1 _ _ _ (by omega)]; exact h7
  rw [e71, show e + 1 - 1 = e by omega]
  refine ⟨fun q => by omega, fun _ => ⟨hc, t80 hS (fun M2 O2 a0 a1 a2 a3 => ?_)⟩, fun q => by omega⟩
  have e72 : M2 2 0 7 = e + 1 := by rw [O2 _ _ _ (by omega)]; exact e71
  have e3 : M2 3 e 1 = D := by rw [O2 _ _ _ (by omega), O1 _ _ _ (by omega)]; exact hdep
  rw [e72, show e + 1 - 1 = e by omega, e3]
  refine ⟨fun q => by omega, fun _ => ⟨hc, fun q => by omega, fun _ => t57 hS (by omega) (fun M3 O3 b3 b4 => ?_), fun q => by omega⟩, fun q => by omega⟩
  have rows_fr : ∀ (N N' : qM), p_rows A cnt (1 + 3 * e + c) N → (∀ (k : Nat) (s : Int), (k = 9 ∨ (48 ≤ k ∧ k ≤ 61)) → N' k (1 + 3 * e + c) s = N k (1 + 3 * e + c) s) → p_rows A cnt (1 + 3 * e + c) N' := fun N N' hr hf => by
    obtain ⟨⟨r1, r2, r3⟩, ⟨v1, v2, v3, v4, v5, v6⟩, l⟩ := hr
    refine ⟨⟨by rw [hf _ _ (by omega)]; exact r1, fun q a b => ?_, fun q a b => ?_⟩, ⟨by rw [hf _ _ (by omega)]; exact v1, by rw [hf _ _ (by omega)]; exact v2, by rw [hf _ _ (by omega)]; exact v3, by rw [hf _ _ (by omega)]; exact v4, fun y a b => by rw [hf _ _ (by omega)]; exact v5 y a b, fun i' w' p1 p2 p3 p4 => ⟨fun q => ?_, fun q k k0 k1 => ?_⟩⟩, fun y a b => by rw [hf _ _ (by omega)]; exact l y a b⟩
    · rw [hf _ _ (by omega), hf _ _ (by omega), hf _ _ (by omega), hf _ _ (by omega), hf _ _ (by omega), hf _ _ (by omega)]; exact r2 q a b
    · rw [hf _ _ (by omega), hf _ _ (by omega), hf _ _ (by omega), hf _ _ (by omega)]; exact r3 q a b
    · rw [hf _ _ (by omega), hf _ _ (by omega), hf _ _ (by omega)]; exact (v6 i' w' p1 p2 p3 p4).1 q
    · rw [hf _ _ (by omega)]; exact (v6 i' w' p1 p2 p3 p4).2 q k k0 k1
  have R3 : p_rows A cnt (1 + 3 * e + c) M3 := rows_fr M1 M3 R1 (fun k s q => by rw [O3 _ _ _ (by omega), O2 _ _ _ (by omega)])
  have T3 := p_T_c (D := D) hA R3
  have M3M : g_cM (p_T A cnt D) (1 + 3 * e + c) M3 := ⟨b3, b4, by omega, T3⟩
  have O13 : ∀ (k : Nat) (m s : Int), ¬ (k = 7 ∧ m = 0 ∧ (s = 3 ∨ s = 4)) → ¬ (m = 1 + 3 * e + c ∧ ((k = 9 ∧ (s = 0 ∨ s = 12 ∨ s = 16 ∨ s = 17)) ∨ (48 ≤ k ∧ k ≤ 61))) → ¬ (m = 0 + 3 * e + c ∧ k = 8 ∧ 0 ≤ s ∧ s ≤ 3) → M3 k m s = M k m s := fun k m s q1 q2 q3 => by rw [O3 k m s (by omega), O2 k m s (by omega), O1 k m s (by omega)]
  have f3 : fr18 e c M M3 := fun k m s q1 q2 q3 => O13 k m s (by omega) q2 (by omega)
  have e73 : M3 2 0 7 = e + 1 := by rw [O13 _ _ _ (by omega) (by omega) (by omega)]; exact h7
  have e83 : M3 2 0 8 = M 2 0 8 := O13 _ _ _ (by omega) (by omega) (by omega)
  have k0 : M3 8 (0 + 3 * e + c) 0 = x := by rw [O3 _ _ _ (by omega)]; exact a0
  have k1 : M3 8 (0 + 3 * e + c) 1 = 0 := by rw [O3 _ _ _ (by omega)]; exact a1
  have k2 : M3 8 (0 + 3 * e + c) 2 = 0 := by rw [O3 _ _ _ (by omega)]; exact a2
  have k3 : M3 8 (0 + 3 * e + c) 3 = 0 := by rw [O3 _ _ _ (by omega)]; exact a3
  have P3 : g_cP (fun _ _ => 0) 0 (0 + 3 * e + c) M3 := ⟨k1, fun k a b => by omega⟩
  refine t19 hS hT hc he.1 e73 M3M P3 ⟨k2, k3⟩ (fun r r0 r1 => ?_) (fun q => ?_) ?_
  · have r1' : r < p_SR A cnt := r1
    have ri := p_row_in hA.1 (r := r) ⟨r0, r1'⟩
    have hcn := hA.1.1
    rw [(R3.1.2.1 r r0 r1').1]
    omega
  · exact H M3 _ 0 f3 R3 M3M k0 P3 k2 (by rw [k3]; rfl) (g_some_0 hT) (Or.inl ⟨by rw [← e83]; exact q, rfl⟩)
  · rcases hold with hold | ⟨e', h1, h2, h3, h4, h5, h6'⟩
    · exact Or.inl (by rw [e83]; exact hold)
    · right
      have same : ∀ (k : Nat) (s : Int), (k = 8 ∨ (43 ≤ k ∧ k ≤ 47)) → M3 k (0 + 3 * e' + c) s = M k (0 + 3 * e' + c) s := fun k s q => O13 _ _ _ (by omega) (by omega) (by omega)
      refine ⟨e', O, wo, co, h1, by rw [e83]; exact h2, ⟨by rw [same _ _ (by omega)]; exact h3.1, fun k a b => by rw [same _ _ (by omega), same _ _ (by omega), same _ _ (by omega), same _ _ (by omega), same _ _ (by omega)]; exact h3.2 k a b⟩, by rw [same _ _ (by omega)]; exact h4, h5, h6', fun M4 P4 c4 O4 p1 p2 p3 p4 p5 => ?_⟩
      have R4 : p_rows A cnt (1 + 3 * e + c) M4 := rows_fr M3 M4 R3 (fun k s q => O4 _ _ _ (by omega) (by omega))
      have sr : (fun r => p_srow M4 e e' c r r) = (fun r => p_srow M3 e e' c r r) := by
        funext r
        unfold p_srow
        have g : ∀ (k : Nat) (m s : Int), (k = 9 ∨ (48 ≤ k ∧ k ≤ 50) ∨ k = 23) → M4 k m s = M3 k m s := fun k m s q => O4 k m s (by omega) (by omega)
        rw [g 9 _ _ (by omega), g 9 _ _ (by omega), g 48 _ _ (by omega), g 48 _ _ (by omega), g 49 _ _ (by omega), g 49 _ _ (by omega), g 50 _ _ (by omega), g 50 _ _ (by omega), g 23 _ _ (by omega), g 23 _ _ (by omega)]
      refine H M4 P4 c4 (fun k m s q1 q2 q3 => by rw [O4 k m s (by omega) (by omega)]; exact f3 k m s q1 q2 q3) R4 (g_cM_fr M3M (fun k m s q => O4 k m s (by omega) (by omega))) (by rw [O4 _ _ _ (by omega) (by omega)]; exact k0) p1 p4 p5 p3 (Or.inr ⟨e', ⟨h1.1, h2⟩, ?_⟩)
      rw [sr, O4 3 e' 0 (by omega) (by omega), O4 3 e 0 (by omega) (by omega), O4 3 e' 1 (by omega) (by omega), O4 3 e 1 (by omega) (by omega), O4 8 (0 + 3 * e' + c) 0 (by omega) (by omega)]
      rw [k0] at p2
      exact p2
