/-! ===== the law makes the pages of a chapter ===== -/
def k_fk (c p0 : Int) (M M' : qM) : Prop := (∀ (k : Nat) (o s : Int), ¬ (89 ≤ k ∧ k ≤ 97) → ¬ (o = 0 ∧ ((k = 76 ∧ (s = 6 ∨ s = 10 + c ∨ s = 13 + c ∨ s = 16 + c ∨ s = 22 + c ∨ s = 25 + c ∨ (29 ≤ s ∧ s ≤ 32))) ∨ ((k = 74 ∨ k = 75) ∧ p0 < s) ∨ (k = 71 ∧ 20 * c ≤ s ∧ s < 20 * c + 20) ∨ (k = 72 ∧ 4 * c ≤ s ∧ s < 4 * c + 4) ∨ (k = 73 ∧ 12 * c ≤ s ∧ s < 12 * c + 12))) → M' k o s = M k o s) ∧ ∀ s, 20 * c ≤ s → s < 20 * c + 20 → M' 71 0 s % 16384 = M 71 0 s % 16384 ∧ (0 ≤ M 71 0 s ∧ M 71 0 s ≤ 2147483647 → 0 ≤ M' 71 0 s ∧ M' 71 0 s ≤ 2147483647)
theorem k_bf0 {P : pT} {j : Int} : g_bf P j 0 = 0 := by unfold g_bf; rw [if_pos (Int.le_refl _)]
section
variable {d : Nat} {h : qH} {f : Int → qH → qM → Prop} {A : pA} {cnt c D p0 : Int}
theorem L205 {u : Nat} {kp : Int} {O : pT} {wo co : Int} {M : qM} (hu : k_h u h) (hSW : p_SW A cnt ≤ 16) (hK : k_ch A cnt c D M) (h6 : M 76 0 6 = p0) (hp0 : 0 ≤ p0 ∧ p0 ≤ 42) (hR0 : 0 < p_SR A cnt)
    (hold : kp ≠ 0 ∧ M 76 0 34 = M 76 0 1 ∧ M 76 0 35 = M 76 0 2 ∧ M 76 0 (36 + c) = p0 + 1 → (k_old M c O wo co p0 ∧ g_old O wo) ∧ ∀ k, 0 ≤ k → k < wo - 1 → (∀ r, 0 ≤ r → r < O 0 k → k_srow A cnt c M r) → O 1 k ≤ p_fl A (O 0 k) ∧ O 1 k ≤ g_bf O 1 k + 2 ∧ O 0 k < p_SR A cnt)
    (H1 : ∀ h' M' P' ct, k_h (u + 10) h' → k_fk c p0 M M' → k_P P' ct p0 c M' → g_made (p_T A cnt D) (g_keepP (p_T A cnt D) O (k_srow A cnt c M) wo (kp ≠ 0 ∧ M 76 0 34 = M 76 0 1 ∧ M 76 0 35 = M 76 0 2 ∧ M 76 0 (36 + c) = p0 + 1)) P' ct (M' 76 0 (16 + c)) → M' 76 0 (10 + c) = p0 + 1 → M' 76 0 (13 + c) = p0 + ct → ct ≤ 19 ∧ ct ≤ p_SR A cnt + 4 → k_fz A cnt c (p_SF A cnt) (p_SN A cnt) M' → f 1 h' M')
    (H0 : g_none (p_T A cnt D) (g_keepP (p_T A cnt D) O (k_srow A cnt c M) wo (kp ≠ 0 ∧ M 76 0 34 = M 76 0 1 ∧ M 76 0 35 = M 76 0 2 ∧ M 76 0 (36 + c) = p0 + 1)) → ∀ h' M', k_h (u + 10) h' → k_fk c p0 M M' → (0 ≤ M' 76 0 6 ∧ M' 76 0 6 ≤ 58) → f 0 h' M') : e205 (d + 5) h c kp M f := by
  obtain ⟨hA, hD, ⟨m2, m19⟩, hr, hi, hw⟩ := id hK
  have hT := p_T_tab hA.2.2.2.1 hD
  have ok := hA.2.2.2.1.1
  have c3 := hA.1
  have s16 := hA.2.2.2.2
  have T8 := p_T_8 (A := A) (cnt := cnt) (D := D)
  have K1 := k_h_new (k := 96) (j := 1) (w := 24) hu (by decide) (Nat.le_refl _) (by omega)
  have K2 := k_h_new (k := 97) (j := 2) (w := 26) K1 (by decide) (by omega) (by omega)
  refine w205 hu.1 ⟨hu.2.1 _, fun sn esn M1 f1 z1 g1 => ?_⟩
  subst g1
  refine ⟨K1.2.1 _, fun nc enc M2 f2 z2 g2 => ?_⟩
  subst g2
  have O2 : ∀ (a : Nat) (o s : Int), ¬ (a = 96 ∨ a = 97) → M2 a o s = M a o s := fun a o s z => by rw [f2, lNm_o (fun y => z (Or.inr y.1)), f1, lNm_o (fun y => z (Or.inl y.1))]
  rw [O2 76 0 (19 + c) (by omega), m19]
  refine ⟨⟨by omega, by omega⟩, ⟨by omega, by omega⟩, ⟨by omega, by omega⟩, ⟨by omega, by omega⟩, fun M3 f3 => ⟨⟨by omega, by omega⟩, ⟨by omega, by omega⟩, fun M4 f4 => ?_⟩⟩
  have O4 : ∀ (a : Nat) (o s : Int), ¬ (a = 96 ∨ a = 97) → ¬ (a = 76 ∧ o = 0 ∧ (s = 22 + c ∨ s = 25 + c)) → M4 a o s = M a o s := fun a o s z z2 => by
    rw [f4]; unfold qU
    rw [if_neg (fun y => z2 ⟨y.1, y.2.1, Or.inr y.2.2⟩), f3]; unfold qU
    rw [if_neg (fun y => z2 ⟨y.1, y.2.1, Or.inl y.2.2⟩), O2 a o s z]
  have ch4 : k_ch A cnt c D M4 := k_ch_cg hK (fun s => O4 _ _ _ (by omega) (by omega)) (fun s => O4 _ _ _ (by omega) (by omega)) (fun s => O4 _ _ _ (by omega) (by omega)) (O4 _ _ _ (by omega) (by omega)) (O4 _ _ _ (by omega) (by omega))
  have z0 : p_fl A 0 = 0 ∧ p_nl A 0 = 0 := ⟨rfl, rfl⟩
  have fz4 : k_fz A cnt c (p_fl A 0) (p_nl A 0) M4 := by
    refine ⟨fun i w a b e g k3 l => ?_, fun i w t a b e g k3 t0 t1 l => ?_, ?_, ?_⟩
    · have := p_FB_end ok (i := i) (w := w) ⟨a, b⟩ ⟨e, by omega⟩
      omega
    · have := p_FB_end ok (i := i) (w := w) ⟨a, b⟩ ⟨e, by omega⟩
      omega
    · rw [f4, qU_l (by omega), f3, qU_s]; rfl
    · rw [f4, qU_s]; rfl
  have eT := p_T_end hA.2.2.2.1
  refine k_sums (d := d) (kp := kp) (sn := sn) (nc := nc) K2.1 (p_SR A cnt).toNat 0 M4 (by omega) ⟨Int.le_refl _, by omega⟩ ch4 fz4 (fun r a b => ?_) (fun M5 fm5 fz5 ss5 u17 u18 u19 u20 u21 u22 u23 u24 u25 => ?_) _ _ _ _ _ _ _ _ _
  · rw [show r = 0 by omega, f4, qU_k (by decide), f3, qU_k (by decide), f2, lNm_o (by omega), f1, lNm_s]; rfl
  rw [eT.1, eT.2] at fz5
  have O5 : ∀ (a : Nat) (o s : Int), ¬ (a = 96 ∨ a = 97) → ¬ (a = 72 ∧ o = 0 ∧ 4 * c ≤ s ∧ s < 4 * c + 4) → ¬ (a = 73 ∧ o = 0 ∧ 12 * c ≤ s ∧ s < 12 * c + 12) → ¬ (a = 76 ∧ o = 0 ∧ (s = 22 + c ∨ s = 25 + c)) → M5 a o s = M a o s := fun a o s z1 z2 z3 z4 => by rw [fm5 a o s z2 z3 z4 (fun y => z1 (Or.inl y.1)), O4 a o s z1 z4]
  have e6 : M5 76 0 6 = p0 := by rw [O5 _ _ _ (by omega) (by omega) (by omega) (by omega)]; exact h6
  refine w205_43 K2.1 ⟨fun z => absurd z (Int.lt_irrefl _), fun _ => ?_⟩
  rw [e6]
  refine ⟨⟨by omega, by omega⟩, ⟨by omega, by omega⟩, ⟨by omega, by omega⟩, fun M6 f6 => ⟨⟨by omega, by omega⟩, ⟨by omega, by omega⟩, fun M7 f7 => ⟨fun _ _ _ => ⟨⟨by omega, by omega⟩, ⟨by omega, by omega⟩, ⟨by omega, by omega⟩, by omega, by omega⟩, fun sm hsm => ⟨⟨by omega, by omega⟩, ⟨by omega, by omega⟩, ?_⟩⟩⟩⟩
  have O7a : ∀ (a : Nat) (o s : Int), ¬ (a = 76 ∧ o = 0 ∧ (s = 10 + c ∨ s = 16 + c)) → M7 a o s = M5 a o s := fun a o s z => by
    rw [f7]; unfold qU
    rw [if_neg (fun y => z ⟨y.1, y.2.1, Or.inr y.2.2⟩), f6]; unfold qU
    rw [if_neg (fun y => z ⟨y.1, y.2.1, Or.inl y.2.2⟩)]
  have O7 : ∀ (a : Nat) (o s : Int), ¬ (a = 96 ∨ a = 97) → ¬ (a = 72 ∧ o = 0 ∧ 4 * c ≤ s ∧ s < 4 * c + 4) → ¬ (a = 73 ∧ o = 0 ∧ 12 * c ≤ s ∧ s < 12 * c + 12) → ¬ (a = 76 ∧ o = 0 ∧ (s = 22 + c ∨ s = 25 + c ∨ s = 10 + c ∨ s = 16 + c)) → M7 a o s = M a o s := fun a o s z1 z2 z3 z4 => by rw [O7a a o s (fun y => z4 ⟨y.1, y.2.1, by omega⟩), O5 a o s z1 z2 z3 (fun y => z4 ⟨y.1, y.2.1, by omega⟩)]
  have v10 : M7 76 0 (10 + c) = p0 + 1 := by rw [f7, qU_l (by omega), f6, qU_s]
  have v16 : M7 76 0 (16 + c) = 0 := by rw [f7, qU_s]
  have ch7 : k_ch A cnt c D M7 := k_ch_cg hK (fun s => O7 _ _ _ (by omega) (by omega) (by omega) (by omega)) (fun s => O7 _ _ _ (by omega) (by omega) (by omega) (by omega)) (fun s => O7 _ _ _ (by omega) (by omega) (by omega) (by omega)) (O7 _ _ _ (by omega) (by omega) (by omega) (by omega)) (O7 _ _ _ (by omega) (by omega) (by omega) (by omega))
  have fz7 : k_fz A cnt c (p_SF A cnt) (p_SN A cnt) M7 := ⟨fun i w a b e g k3 l => by rw [O7a _ _ _ (by omega)]; exact fz5.1 i w a b e g k3 l, fun i w t a b e g k3 t0 t1 l => by rw [O7a _ _ _ (by omega)]; exact fz5.2.1 i w t a b e g k3 t0 t1 l, by rw [O7a _ _ _ (by omega)]; exact fz5.2.2.1, by rw [O7a _ _ _ (by omega)]; exact fz5.2.2.2⟩
  have env7 : k_env A cnt c D sn M7 := by
    refine ⟨ch7, fun r a b => by rw [O7a _ _ _ (by omega)]; exact ss5 r a b, fun i w a b e g k3 => fz7.1 i w a b e g k3 ?_, fz7.2.2.1, fz7.2.2.2⟩
    have s := p_FB_mono ok (i := cnt) (w := 0) (i' := i) (w' := w) ⟨a, Int.le_refl _⟩ ⟨e, g⟩ ⟨Int.le_refl _, Or.inr rfl⟩ (Or.inl b)
    rw [if_pos k3] at s
    have : p_FB A cnt 0 = p_SF A cnt := by
      unfold p_FB p_PF
      rw [p_sum_0, Int.add_zero]
    omega
  have e34 : (M7 76 0 34 = M 76 0 34 ∧ M7 76 0 1 = M 76 0 1) ∧ (M7 76 0 35 = M 76 0 35 ∧ M7 76 0 2 = M 76 0 2) ∧ M7 76 0 (36 + c) = M 76 0 (36 + c) := ⟨⟨O7 _ _ _ (by omega) (by omega) (by omega) (by omega), O7 _ _ _ (by omega) (by omega) (by omega) (by omega)⟩, ⟨O7 _ _ _ (by omega) (by omega) (by omega) (by omega), O7 _ _ _ (by omega) (by omega) (by omega) (by omega)⟩, O7 _ _ _ (by omega) (by omega) (by omega) (by omega)⟩
  have eon : k_on c kp M7 = (kp ≠ 0 ∧ M 76 0 34 = M 76 0 1 ∧ M 76 0 35 = M 76 0 2 ∧ M 76 0 (36 + c) = p0 + 1) := by
    unfold k_on
    rw [e34.1.1, e34.1.2, e34.2.1.1, e34.2.1.2, e34.2.2, v10]
  have fO6 : M7 76 0 6 = p0 := by rw [O7a _ _ _ (by omega)]; exact e6
  have sr7 : k_srow A cnt c M7 = k_srow A cnt c M := by
    funext r
    unfold k_srow
    rw [O7 71 _ _ (by omega) (by omega) (by omega) (by omega), O7 80 _ _ (by omega) (by omega) (by omega) (by omega), O7 65 _ _ (by omega) (by omega) (by omega) (by omega), O7 82 _ _ (by omega) (by omega) (by omega) (by omega)]
  have hP7 : ∀ P : pT, k_P P 0 p0 c M7 := fun P => ⟨by rw [fO6]; omega, fun k a b => by omega⟩
  have fin : ∀ M8, k_fq c p0 nc M7 M8 → k_fk c p0 M M8 := fun M8 q8 => by
    refine ⟨fun k o s z1 z2 => ?_, fun s a b => ?_⟩
    · rw [q8.1 k o s (fun y => z1 (by omega)) (fun y => z1 (by omega)) (fun y => z2 (by omega)), O7 k o s (fun y => z1 (by omega)) (fun y => z2 (by omega)) (fun y => z2 (by omega)) (fun y => z2 (by omega))]
    · have := q8.2 s a b
      rw [O7 71 _ _ (by omega) (by omega) (by omega) (by omega)] at this
      exact this
  have behind : ∀ (M8 : qM) (Q : pT) (ck : Int), k_fy c p0 M7 M8 → k_P Q ck p0 c M8 → g_some (p_T A cnt D) Q ck → M8 76 0 (16 + c) = p_sum (g_kc (p_T A cnt D) Q) ck → k_pgs (p_T A cnt D) Q ck → g_keepP (p_T A cnt D) O (k_srow A cnt c M) wo (kp ≠ 0 ∧ M 76 0 34 = M 76 0 1 ∧ M 76 0 35 = M 76 0 2 ∧ M 76 0 (36 + c) = p0 + 1) Q ck → g_bf Q 0 ck < p_SR A cnt → ∀ u4 u9 u10 u11 u12 u21 u22 u23 u24 u25 : qV, b205_725 d (lNh (lNh h 96 24) 97 26) f u4 c u9 u10 u11 u12 sn nc (p_SR A cnt) (g_bf Q 0 ck) (g_bf Q 1 ck) (g_bf Q 2 ck) (k_before Q ck) (k_odd ck) u21 u22 u23 u24 u25 M8 := by
    intro M8 Q ck y8 hQ hso w16 pgs keep lt u4 u9 u10 u11 u12 u21 u22 u23 u24 u25
    refine k_725 (u := u + 1 + 2) K2 hSW hp0 (k_env_fy env7 y8) hQ hso w16 pgs lt (fun hV h' M9 hu9 q9 e9 => ?_) (fun hV h' M9 P9 ct hu9 q9 hP9 rest9 l1 l2 l3 => ?_) _ _ _ _ _ _ _ _ _ _
    · exact H0 ⟨Q, ck, keep, hso, by rw [T8.1]; exact lt, hV⟩ h' M9 (k_h_up hu9 (by omega)) (fin M9 (k_fq_q (k_fy_q y8) q9 (Int.le_refl _))) e9
    · have q79 : k_fq c p0 nc M7 M9 := k_fq_q (k_fy_q y8) q9 (Int.le_refl _)
      have k97 : ∀ (a : Nat) (s : Int), (a = 72 ∨ a = 73 ∨ (a = 76 ∧ (s = 10 + c ∨ s = 22 + c ∨ s = 25 + c))) → M9 a 0 s = M7 a 0 s := fun a s z => q79.1 a 0 s (by omega) (by omega) (by omega)
      refine H1 h' M9 P9 ct (k_h_up hu9 (by omega)) (fin M9 q79) hP9 ⟨Q, ck, keep, hso, by rw [T8.1]; exact lt, hV, rest9, l1⟩ (by rw [k97 _ _ (by omega)]; exact v10) l2 l3 ⟨fun i w a b e g k3 l => by rw [k97 _ _ (by omega)]; exact fz7.1 i w a b e g k3 l, fun i w t a b e g k3 t0 t1 l => by rw [k97 _ _ (by omega)]; exact fz7.2.1 i w t a b e g k3 t0 t1 l, by rw [k97 _ _ (by omega)]; exact fz7.2.2.1, by rw [k97 _ _ (by omega)]; exact fz7.2.2.2⟩
  generalize hP0 : (fun _ _ => 0 : pT) = Z at *
  have b0 : g_bf Z 0 0 = 0 ∧ g_bf Z 1 0 = 0 ∧ g_bf Z 2 0 = 0 ∧ k_before Z 0 = 0 ∧ k_odd 0 = 1 := ⟨k_bf0, k_bf0, k_bf0, by unfold k_before; rw [if_pos (Int.le_refl _)], rfl⟩
  have s0 : M7 76 0 (16 + c) = p_sum (g_kc (p_T A cnt D) Z) 0 := by rw [v16]; rfl
  have pg0 : k_pgs (p_T A cnt D) Z 0 := fun k a b => by omega
  by_cases on : kp ≠ 0 ∧ M 76 0 34 = M 76 0 1 ∧ M 76 0 35 = M 76 0 2 ∧ M 76 0 (36 + c) = p0 + 1
  · rw [if_neg on.1, e34.1.1, e34.1.2, if_pos on.2.1, e34.2.1.1, e34.2.1.2, if_pos on.2.2.1, e34.2.2, v10, if_pos on.2.2.2] at hsm
    obtain ⟨⟨ho, hg⟩, hf⟩ := hold on
    have on7 : k_on c kp M7 := by rw [eon]; exact on
    have ho7 : k_old M7 c O wo co p0 := by
      obtain ⟨o1, o2, o3, o4, o5, o6, o7, o8⟩ := ho
      have e33 : M7 76 0 33 = M 76 0 33 := O7 _ _ _ (by omega) (by omega) (by omega) (by omega)
      have e39 : M7 76 0 (39 + c) = M 76 0 (39 + c) := O7 _ _ _ (by omega) (by omega) (by omega) (by omega)
      have e81 : ∀ s, M7 81 0 s = M 81 0 s := fun s => O7 _ _ _ (by omega) (by omega) (by omega) (by omega)
      exact ⟨by rw [e33]; exact o1, o2, by rw [e34.2.2]; exact o3, fun k a b => by rw [e81]; exact o4 k a b, by rw [e33, e81]; exact o5, o6, by rw [e39]; exact o7, by rw [e39]; exact o8⟩
    have k371 := k_371 (d := d) (f := f) (sn := sn) (nc := nc) (P := Z) K2.1 hp0 env7 on7 ho7 hg (fun k a b hs => hf k a b (by rw [sr7] at hs; exact hs)) (fun M8 Q ck y8 hQ hso w16 pgs keep lt => behind M8 Q ck y8 hQ hso w16 pgs (by rw [sr7, eon] at keep; exact keep) (by
      rcases lt with lt | lt
      · exact lt
      · rw [lt, k_bf0]; exact hR0)) co.toNat 0 Z M7 (by omega) (Int.le_refl _) (Or.inl rfl) k_fy_r (hP7 Z) (fun q a b => by omega) (g_some_0 hT) s0 pg0 (Or.inr rfl) ⟨by rw [k_bf0, k_bf0], by rw [k_bf0, k_bf0]⟩ (fun r a b => by rw [k_bf0] at b; omega)
    rw [b0.1, b0.2.1, b0.2.2.1, b0.2.2.2.1, b0.2.2.2.2] at k371
    rw [hsm, e34.2.2, on.2.2.2, show p0 + 1 = p0 + 1 + 0 by omega]
    exact k371 _ _ _ _ _
  · have sm0 : sm = 0 := by
      rw [hsm, e34.1.1, e34.1.2, e34.2.1.1, e34.2.1.2, e34.2.2, v10]
      by_cases k1 : kp = 0
      · rw [if_pos k1]
      · rw [if_neg k1]
        by_cases k2 : M 76 0 34 = M 76 0 1
        · rw [if_pos k2]
          by_cases k3 : M 76 0 35 = M 76 0 2
          · rw [if_pos k3, if_neg (fun z => on ⟨k1, k2, k3, z⟩)]
          · rw [if_neg k3]
        · rw [if_neg k2]
    have bb := behind M7 Z 0 k_fy_r (hP7 Z) (g_some_0 hT) s0 pg0 (Or.inr ⟨on, rfl⟩) (by rw [k_bf0]; exact hR0)
    rw [b0.1, b0.2.1, b0.2.2.1, b0.2.2.2.1, b0.2.2.2.2] at bb
    exact w205_371 K2.1 ⟨fun _ => bb _ _ _ _ _ _ _ _ _ _, fun z => absurd sm0 z⟩
end
