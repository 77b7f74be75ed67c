/-! ===== writes ===== -/
section
variable {d : Nat} {f : Int → qH → qM → Prop} {B : pT} {n : Int} {M : qM}
theorem l_cl (h : l_all n B M) {M2 : qM} (cl : ∀ (k : Nat) (o s : Int), k < 64 → M2 k o s = M k o s) : z_cl n B M2 := z_cl_fr (fun k o s _ b => cl k o s b) h.1.1
theorem l_codes (h : l_all n B M) : ∀ i, 0 ≤ i → i < M 5 0 2 → 0 ≤ M 79 0 i ∧ M 79 0 i < 2048 := fun i a b => by
  have dr := h.1.1.2.2.1
  have z := dr.2 i a b
  have e := (h.1.2.2.2.1.2 i a b).1
  have z1 := z.1
  have z2 := z.2.1
  have z3 := z.2.2.1
  omega
/-- one more word -/
theorem l_put (h : l_all n B M) {M2 N : qM} {wd kd val : Int} (c14 : M 76 0 0 ≤ 14) (hM2 : ∀ (k : Nat) (o s : Int), ¬ (k = 79 ∧ o = 0 ∧ s = M 76 0 0) → ¬ (k = 76 ∧ o = 0 ∧ s = 0) → M2 k o s = M k o s) (v79 : M2 79 0 (M 76 0 0) = wd + 16 * kd + 128 * val) (v0 : M2 76 0 0 = M 76 0 0 + 1) (hz : z_cl n B N) (lw : z_lw M2 N) (hx : ∀ {en L : Int} {W : Int → Int} {R : c_R}, z_x B en W R L M2 → z_x B en W R L N) (O : ∀ (kk : Nat) (m s : Int), ¬ (kk = 5 ∧ m = 0 ∧ s = 2) → ¬ (32 ≤ kk ∧ kk ≤ 34 ∧ m = 0 ∧ s = M2 5 0 2) → N kk m s = M2 kk m s) (a5 : N 5 0 2 = M2 5 0 2 + 1) (aw : N 32 0 (M2 5 0 2) = wd ∧ N 33 0 (M2 5 0 2) = kd ∧ N 34 0 (M2 5 0 2) = val) (k6 : kd = 6 → wd = 0) : l_all n B N := by
  have cl : ∀ (k : Nat) (o s : Int), k < 64 → M2 k o s = M k o s := fun k o s a => hM2 k o s (by omega) (by omega)
  have dr := h.1.2.2.2.1
  have e5 : M2 5 0 2 = M 5 0 2 := cl _ _ _ (by decide)
  rw [e5] at O a5 aw
  have s := dr.1
  refine l_same h hz ⟨fun k o s a => by rw [lw.2.1 k o s a, cl k o s (by omega)], by rw [lw.2.2.1, cl _ _ _ (by decide)], by have := lw.2.2.2; rw [cl 10 0 14 (by decide)] at this; exact this⟩ (fun z => hx (z_x_fr (fun k o s _ b => cl k o s b) z)) (by rw [O 10 0 13 (by omega) (by omega), cl 10 0 13 (by decide)]) (fun k o s a b c d e => by rw [lw.1 k o s a, hM2 k o s (by omega) (by omega)]) (fun x x0 => by rw [O _ _ _ (by omega) (by omega), cl _ _ _ (by decide)]) (fun x s => by rw [O _ _ _ (by omega) (by omega), cl _ _ _ (by decide)]) (fun t => by rw [O _ _ _ (by omega) (by omega), cl _ _ _ (by decide)]) ⟨⟨by rw [lw.1 76 0 0 (by decide), v0]; omega, by omega⟩, fun w w0 w1 => ?_⟩
  by_cases e : w = M 5 0 2
  · subst e
    rw [aw.1, aw.2.1, aw.2.2, lw.1 79 _ _ (by decide)]
    rw [s.1] at v79
    exact ⟨v79, k6⟩
  · have t := dr.2 w w0 (by omega)
    rw [lw.1 79 _ _ (by decide), hM2 79 _ _ (by omega) (by omega), O 32 _ _ (by omega) (by omega), O 33 _ _ (by omega) (by omega), O 34 _ _ (by omega) (by omega), cl 32 _ _ (by decide), cl 33 _ _ (by decide), cl 34 _ _ (by decide)]
    exact t
/-- what words are refused -/
theorem k_9e {u : Nat} {h : qH} {x2 x3 : Int} {u1 u4 u5 u8 u10 u11 u12 u13 : qV} (hu : k_h u h) (ha : l_all n B M) (H : ∀ h', k_h (u + 20) h' → f 1 h' M) : b228_9 d h f u1 x2 x3 u4 u5 u8 3 u10 u11 u12 u13 M := by
  have hz := ha.1.1
  have hu1 := k_h_bump hu
  have hu2 := k_h_bump hu1
  have hu3 := k_h_bump hu2
  have hu4 := k_h_bump hu3
  have hu5 := k_h_bump hu4
  have hu6 := k_h_bump hu5
  have hu7 := k_h_bump hu6
  have hu8 := k_h_bump hu7
  have hu9 := k_h_bump hu8
  have hu10 := k_h_bump hu9
  have hu11 := k_h_bump hu10
  have hu12 := k_h_bump hu11
  have hu13 := k_h_bump hu12
  have hu14 := k_h_bump hu13
  have hu15 := k_h_bump hu14
  have no : ∀ w k v : Int, ¬ ((1 ≤ w ∧ w ≤ 8) ∧ qVal k v) → ∀ {h1 : qH} {F : Int → qH → qM → Prop}, qSe h1 → F (-7200) (lBh h1) M → e153 (d + 4) h1 w k v M F := fun w k v q h1 F hS HF => C153 hS hz (fun z => absurd z q) (fun z => absurd z q) (fun _ => HF)
  have nr : ∀ v : Int, ¬ (0 ≤ v ∧ v < 10) → ∀ {h1 : qH} {F : Int → qH → qM → Prop}, qSe h1 → F (-7200) (lBh h1) M → e154 (d + 4) h1 v M F := fun v q h1 F hS HF => C154 hS hz (fun z => absurd z q) (fun z => absurd z q) (fun _ => HF)
  refine w228_9 hu.1 ⟨fun y => absurd y (by decide), fun _ => ?_⟩
  refine no 0 0 0 (fun z => absurd z.1.1 (by decide)) hu.1 ⟨fun _ => ?_, fun y => absurd rfl y⟩
  refine no 9 0 0 (fun z => absurd z.1.2 (by decide)) hu1.1 ⟨fun _ => ?_, fun y => absurd rfl y⟩
  refine no 1 6 0 (by unfold qVal; omega) hu2.1 ⟨fun _ => ?_, fun y => absurd rfl y⟩
  refine no 1 (-1) 0 (by unfold qVal; omega) hu3.1 ⟨fun _ => ?_, fun y => absurd rfl y⟩
  refine no 1 0 1 (by unfold qVal; omega) hu4.1 ⟨fun _ => ?_, fun y => absurd rfl y⟩
  refine no 1 1 10 (by unfold qVal; omega) hu5.1 ⟨fun _ => ?_, fun y => absurd rfl y⟩
  refine no 1 2 0 (by unfold qVal; omega) hu6.1 ⟨fun _ => ?_, fun y => absurd rfl y⟩
  refine no 1 2 5 (by unfold qVal; omega) hu7.1 ⟨fun _ => ?_, fun y => absurd rfl y⟩
  refine no 1 3 1 (by unfold qVal; omega) hu8.1 ⟨fun _ => ?_, fun y => absurd rfl y⟩
  refine no 1 3 6 (by unfold qVal; omega) hu9.1 ⟨fun _ => ?_, fun y => absurd rfl y⟩
  refine no 1 4 (-1) (by unfold qVal; omega) hu10.1 ⟨fun _ => ?_, fun y => absurd rfl y⟩
  refine no 1 5 4 (by unfold qVal; omega) hu11.1 ⟨fun _ => ?_, fun y => absurd rfl y⟩
  refine no 1 5 0 (by unfold qVal; omega) hu12.1 ⟨fun _ => ?_, fun y => absurd rfl y⟩
  refine nr 10 (by decide) hu13.1 ⟨fun _ => ?_, fun y => absurd rfl y⟩
  refine nr (-1) (by decide) hu14.1 (fun x hx => ?_)
  rw [if_pos rfl] at hx
  rw [hx]
  exact ⟨Or.inr rfl, H _ (k_h_up hu15 (by omega))⟩
theorem k_9 {u : Nat} {h : qH} {x2 x3 : Int} {u1 u4 u5 u8 : qV} (hu : k_h u h) (H : ∀ h' N, k_h (u + 20) h' → l_all n B N → f 1 h' N) : ∀ (t : Nat) (k : Int) (M : qM) (u10 u11 u12 u13 : qV), 3 - k ≤ t → 0 ≤ k → k ≤ 3 → l_all n B M → b228_9 d h f u1 x2 x3 u4 u5 u8 k u10 u11 u12 u13 M := by
  intro t
  induction t with
  | zero =>
    intro k M u10 u11 u12 u13 ht k0 k1 ha
    rw [show k = 3 by omega]
    exact k_9e hu ha (fun h' hu' => H h' M hu' ha)
  | succ t ih =>
    intro k M u10 u11 u12 u13 ht k0 k1 ha
    by_cases k3 : k = 3
    · rw [k3]; exact k_9e hu ha (fun h' hu' => H h' M hu' ha)
    have nx := fun N u10 u11 u12 u13 (hN : l_all n B N) => ih (k + 1) N u10 u11 u12 u13 (by omega) (by omega) (by omega) hN
    have dr := ha.1.2.2.2.1
    have d0 := ha.1.1.2.2.1.1
    have d1 := dr.1
    refine w228_9 hu.1 ⟨fun _ => ⟨⟨by omega, by omega⟩, ⟨by omega, by omega⟩, ⟨by omega, by omega⟩, ?_⟩, fun y => absurd (show k < 3 by omega) y⟩
    rw [k_a127, k_a3, k_a7, k_a1]
    have b1 : 0 ≤ x2 / 2 ^ (7 * k + 1).toNat % 128 ∧ x2 / 2 ^ (7 * k + 1).toNat % 128 < 128 := by omega
    have b2 : 0 ≤ x3 / 2 ^ (4 * k + 1).toNat % 8 ∧ x3 / 2 ^ (4 * k + 1).toNat % 8 < 8 := by omega
    have b3 : 0 ≤ x3 / 1048576 % 2 ∧ x3 / 1048576 % 2 < 2 := by omega
    generalize x2 / 2 ^ (7 * k + 1).toNat % 128 = its at *
    generalize x3 / 2 ^ (4 * k + 1).toNat % 8 = v8 at *
    generalize x3 / 1048576 % 2 = bit at *
    refine ⟨fun _ => ⟨by omega, ⟨by omega, by omega⟩⟩, fun kd hkd => ?_⟩
    have kb : 0 ≤ kd ∧ kd ≤ 6 := by rw [hkd]; split <;> omega
    refine ⟨fun _ => ⟨⟨by omega, by omega⟩, ⟨by omega, by omega⟩, ⟨by omega, by omega⟩, ⟨by omega, by omega⟩⟩, fun wd hwd => ?_⟩
    refine ⟨fun _ => ⟨fun _ => ⟨⟨by omega, by omega⟩, ⟨by omega, by omega⟩, by omega⟩, fun _ => ⟨fun _ => ⟨⟨by omega, by omega⟩, ⟨by omega, by omega⟩, by omega⟩, fun _ => ⟨fun _ => ⟨⟨by omega, by omega⟩, ⟨by omega, by omega⟩, by omega⟩, fun _ => ⟨fun _ => ⟨by omega, by omega⟩, fun _ => ⟨fun _ => ⟨by omega, by omega⟩, fun _ => ⟨by omega, ⟨by omega, by omega⟩⟩⟩⟩⟩⟩⟩, fun val hval => ?_⟩
    have wb : (kd = 6 → wd = 0) ∧ (kd ≠ 6 → 1 ≤ wd ∧ wd ≤ 8) := by
      rw [hwd]
      by_cases q : kd = 6
      · rw [if_pos q]; omega
      · rw [if_neg q]; omega
    have vb : (kd ≠ 6 → qVal kd val) ∧ (kd = 6 → 0 ≤ val ∧ val < 10) ∧ 0 ≤ val ∧ val ≤ 9 := by
      rw [hval]
      unfold qVal
      by_cases q0 : kd = 0
      · rw [if_pos q0]; omega
      · rw [if_neg q0]
        by_cases q1 : kd = 1
        · rw [if_pos q1]; omega
        · rw [if_neg q1]
          by_cases q4 : kd = 4
          · rw [if_pos q4]; omega
          · rw [if_neg q4]
            by_cases q6 : kd = 6
            · rw [if_pos q6]; omega
            · rw [if_neg q6]
              by_cases q2 : kd = 2
              · rw [if_pos q2]; omega
              · rw [if_neg q2]
                by_cases q3 : kd = 3
                · rw [if_pos q3]; omega
                · rw [if_neg q3]; omega
    refine ⟨fun le => ⟨⟨by omega, by omega⟩, ⟨by omega, by omega⟩, ⟨by omega, by omega⟩, ⟨by omega, by omega⟩, ⟨by omega, by omega⟩, fun M1 f1 => ?_⟩, fun _ => ⟨⟨by omega, by omega⟩, nx M _ _ _ _ ha⟩⟩
    have e1 : M1 76 0 0 = M 76 0 0 := by rw [f1, qU_k (by decide)]
    rw [e1]
    refine ⟨⟨by omega, by omega⟩, fun M2 f2 => ?_⟩
    have hM2 : ∀ (k : Nat) (o s : Int), ¬ (k = 79 ∧ o = 0 ∧ s = M 76 0 0) → ¬ (k = 76 ∧ o = 0 ∧ s = 0) → M2 k o s = M k o s := fun k o s a b => by rw [f2, f1]; unfold qU; rw [if_neg b, if_neg a]
    have v79 : M2 79 0 (M 76 0 0) = wd + 16 * kd + 128 * val := by rw [f2, qU_k (by decide), f1, qU_s]
    have v0 : M2 76 0 0 = M 76 0 0 + 1 := by rw [f2, qU_s]
    have cl : ∀ (k : Nat) (o s : Int), k < 64 → M2 k o s = M k o s := fun k o s a => hM2 k o s (by omega) (by omega)
    have hz2 := l_cl ha cl
    have e5 : M2 5 0 2 = M 5 0 2 := cl _ _ _ (by decide)
    refine ⟨fun k6 => ?_, fun k6 => ?_⟩
    · refine C154 hu.1 hz2 (fun q c20 N hzN lw hx O a5 aw => ?_) (fun q c20 => absurd (by omega) c20) (fun q => absurd (vb.2.1 k6) q)
      have w0 := wb.1 k6
      have hN := l_put ha le hM2 v79 v0 hzN lw hx O a5 (by rw [w0, k6]; exact aw) wb.1
      refine ⟨fun _ => ⟨⟨by omega, by omega⟩, nx N _ _ _ _ hN⟩, fun y => absurd ?_ y⟩
      rw [lw.1 76 0 0 (by decide), v0]
      omega
    · refine C153 hu.1 hz2 (fun q c20 N hzN lw hx O a5 aw => ?_) (fun q c20 => absurd (by omega) c20) (fun q => absurd ⟨wb.2 k6, vb.1 k6⟩ q)
      have hN := l_put ha le hM2 v79 v0 hzN lw hx O a5 aw wb.1
      refine ⟨fun _ => ⟨⟨by omega, by omega⟩, nx N _ _ _ _ hN⟩, fun y => absurd ?_ y⟩
      rw [lw.1 76 0 0 (by decide), v0]
      omega
/-- clear -/
theorem k_clr {h : qH} (hS : qSe h) (ha : l_all n B M) (H : ∀ N, l_all n B N → f 1 h N) : ∀ M101, M101 = qU M 76 0 0 0 → e99 (d + 1) h M101 (fun v102 M103 => (∀ x105 : Int, x105 = (if v102 = (M 76 0 0) then 1 else 0) → ((x105 = 0 ∨ x105 = 1) ∧ f x105 h M103))) := by
  intro M2 f2
  have cl : ∀ (k : Nat) (o s : Int), k < 64 → M2 k o s = M k o s := fun k o s a => by rw [f2, qU_k (by omega)]
  have dr := ha.1.2.2.2.1
  refine C99 hS (l_cl ha cl) (fun N hzN lw hx O a5 x hx' => ?_)
  rw [if_pos (by rw [cl _ _ _ (by decide)]; exact dr.1.1.symm)] at hx'
  rw [hx']
  refine ⟨Or.inr rfl, H N (l_same ha hzN ⟨fun k o s a => by rw [lw.2.1 k o s a, cl k o s (by omega)], by rw [lw.2.2.1, cl _ _ _ (by decide)], by have := lw.2.2.2; rw [cl 10 0 14 (by decide)] at this; exact this⟩ (fun z => hx (z_x_fr (fun k o s _ b => cl k o s b) z)) (by rw [O 10 0 13 (by omega), cl 10 0 13 (by decide)]) (fun k o s a b c d e => by rw [lw.1 k o s a, f2]; unfold qU; rw [if_neg (by omega)]) (fun x x0 => by rw [O _ _ _ (by omega), cl _ _ _ (by decide)]) (fun x s => by rw [O _ _ _ (by omega), cl _ _ _ (by decide)]) (fun t => by rw [O _ _ _ (by omega), cl _ _ _ (by decide)]) ⟨⟨?_, by omega⟩, fun w w0 w1 => by omega⟩)⟩
  rw [lw.1 76 0 0 (by decide), f2, qU_s, a5]
end
