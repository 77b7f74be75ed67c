/-! ===== the law tries a page ===== -/
theorem k_wd {A : pA} {cnt c i w : Int} {M : qM} (hA : k_sz A cnt c) (hw : k_wrd A cnt c M) (hi : 0 ≤ i ∧ i < cnt) (hw' : 0 ≤ w ∧ w < A 6 i 0) : (0 ≤ 6 * c + i ∧ 6 * c + i < 18) ∧ (0 ≤ w ∧ w < 15) ∧ (A 4 i w = 2 → 1 ≤ A 5 i w ∧ A 5 i w ≤ 4) := by
  have := hA.1
  have := hA.2.1
  have := hA.2.2.1 i hi.1 hi.2
  exact ⟨by omega, by omega, (hA.2.2.2.1.2.1 i w hi.1 hi.2 hw'.1 hw'.2).2⟩
theorem k_ch_cg {A : pA} {cnt c D : Int} {M M' : qM} (h : k_ch A cnt c D M) (h4 : ∀ s, M' 64 0 s = M 64 0 s) (h5 : ∀ s, M' 65 0 s = M 65 0 s) (h7 : ∀ s, M' 71 0 s = M 71 0 s) (h2 : M' 76 0 2 = M 76 0 2) (h9 : M' 76 0 (19 + c) = M 76 0 (19 + c)) : k_ch A cnt c D M' := by
  obtain ⟨hA, hD, ⟨m2, m19⟩, hr, hi, hw⟩ := h
  refine ⟨hA, hD, ⟨by rw [h2]; exact m2, by rw [h9]; exact m19⟩, fun q a b => by rw [h7]; exact hr q a b, fun i a b => by rw [h5]; exact hi i a b, fun i w a b e g => ?_⟩
  unfold k_cd
  rw [h4]
  exact hw i w a b e g
theorem k_ch_fr {A : pA} {cnt c D : Int} {M M' : qM} (h : k_ch A cnt c D M) (O : ∀ (k : Nat) (o s : Int), ¬ (k = 76 ∧ o = 0 ∧ 29 ≤ s ∧ s ≤ 32) → M' k o s = M k o s) : k_ch A cnt c D M' := by
  have := h.1.1
  exact k_ch_cg h (fun s => O _ _ _ (by omega)) (fun s => O _ _ _ (by omega)) (fun s => O _ _ _ (by omega)) (O _ _ _ (by omega)) (O _ _ _ (by omega))
section
variable {d : Nat} {h : qH} {M : qM} {f : Int → qM → Prop} {A : pA} {cnt c D n a b m fl sh x bf : Int}
theorem L201 (hS : qSe h) (hK : k_ch A cnt c D M) (hs : k_ss A cnt n M) (hf : k_flt A cnt c M) (ha : g_at (p_T A cnt D) a fl sh) (hab : a < b ∧ b ≤ p_SR A cnt) (hm : 0 ≤ m ∧ m ≤ 2 ∧ fl + m ≤ p_fl A b)
    (hx : (bf = x ∧ 1 ≤ x ∧ x ≤ 14) ∨ (bf = 0 ∧ (x = 0 ∨ x = 15)))
    (H0 : ¬ g_can (p_T A cnt D) a fl sh b m → f 0 M)
    (H1 : g_can (p_T A cnt D) a fl sh b m → ∀ M', (∀ (k : Nat) (o s : Int), ¬ (k = 76 ∧ o = 0 ∧ 29 ≤ s ∧ s ≤ 32) → M' k o s = M k o s) → M' 76 0 29 = g_lines (p_T A cnt D) a b fl m sh → M' 76 0 30 = g_grown (p_T A cnt D) a b fl m sh → M' 76 0 31 = g_fill (p_T A cnt D) a b fl m sh → M' 76 0 32 = g_cost (p_T A cnt D) a b fl m sh + g_far (p_T A cnt D) a b fl m sh x → f 1 M') : e201 (d + 3) h n c a fl sh bf (b - a) m M f := by
  obtain ⟨hA, hD, ⟨m2, m19⟩, hr, hi, hw⟩ := id hK
  have hT := p_T_tab hA.2.2.2.1 hD
  have s16 := hA.2.2.2.2
  have c3 := hA.1
  have ok := hA.2.2.2.1.1
  have T8 := p_T_8 (A := A) (cnt := cnt) (D := D)
  have hs' := id ha
  obtain ⟨a1, a2, a3⟩ := ha
  rw [T8.1] at a1
  have tb := g_tab_at hT (a := b) ⟨by omega, by rw [T8.1]; exact hab.2⟩
  have ta := g_tab_at hT (a := a) ⟨by omega, by rw [T8.1]; omega⟩
  have tb1 := g_tab_at hT (a := a + 1) ⟨by omega, by rw [T8.1]; omega⟩
  rw [T8.2.2.1, T8.2.2.2] at tb ta tb1
  have F4 := hT.2.2.1
  have N12 := hT.2.2.2.1
  rw [T8.2.2.1] at F4
  rw [T8.2.2.2] at N12
  have e0 : ∀ r, p_T A cnt D 0 r = p_bl A r := fun _ => rfl
  have e1 : ∀ r, p_T A cnt D 1 r = p_fl A r := fun _ => rfl
  have e2 : ∀ r, p_T A cnt D 2 r = p_nl A r := fun _ => rfl
  have e3 : ∀ r, p_T A cnt D 3 r = p_ls A r := fun _ => rfl
  have e4 : ∀ r, p_T A cnt D 4 r = p_hi A cnt r := fun _ => rfl
  rw [e1] at a2 tb ta tb1
  rw [e2, e3] at a3 tb ta tb1
  rw [e0] at tb ta tb1
  have nums := g_nums hT hs' ⟨hab.1, by rw [T8.1]; exact hab.2⟩ ⟨hm.1, hm.2.2⟩
  have hgh : g_high (p_T A cnt D) a b fl m = b - a + (p_bl A b - p_bl A (a + 1)) + p_hi A cnt (fl + m) - p_hi A cnt fl := rfl
  have hbl : 0 ≤ p_bl A b - p_bl A (a + 1) ∧ p_bl A b - p_bl A (a + 1) ≤ 16 := by
    have := nums.2.1
    rw [e0, e0] at this
    have := hT.2.2.2.2.2.2.1 (a + 1) b (by omega) (by omega) (by rw [T8.1]; exact hab.2)
    rw [e0, e0] at this
    omega
  have hh : p_hi A cnt fl ≤ p_hi A cnt (fl + m) ∧ p_hi A cnt (fl + m) ≤ p_hi A cnt fl + 18 ∧ ∀ k, fl ≤ k → k ≤ fl + m → p_hi A cnt fl ≤ p_hi A cnt k ∧ p_hi A cnt k ≤ p_hi A cnt fl + 18 := by
    have q := fun k (h1 : fl ≤ k) (h2 : k ≤ fl + m) => hT.2.2.2.2.2.2.2.2.1 fl k (by omega) h1 (by rw [T8.2.2.1]; omega)
    rw [e4] at q
    refine ⟨?_, ?_, fun k h1 h2 => ?_⟩
    · have := q (fl + m) (by omega) (Int.le_refl _); rw [e4] at this; omega
    · have := q (fl + m) (by omega) (Int.le_refl _); rw [e4] at this; omega
    · have := q k h1 h2; rw [e4] at this; omega
  have s0 := hs b (by omega) hab.2
  have hlate : g_late (p_T A cnt D) b fl m = p_fl A b - fl - m := rfl
  have snl : (p_nl A b + 16 * p_fl A b) % 16 = p_nl A b := by omega
  have sfl : (p_nl A b + 16 * p_fl A b) / 16 = p_fl A b := by omega
  have hrm : g_room (p_T A cnt D) a b fl m = D - g_high (p_T A cnt D) a b fl m - 1 := by unfold g_room; rw [T8.2.1]
  -- the last part
  have last : ∀ (M2 : qM) (u0 u1 u2 u3 u4 u6 u7 u8 u9 u11 u12 u13 u14 u15 u16 u17 u18 u19 u20 u22 u23 u24 : qV), g_can (p_T A cnt D) a fl sh b m → (∀ (k : Nat) (o s : Int), ¬ (k = 76 ∧ o = 0 ∧ 29 ≤ s ∧ s ≤ 32) → M2 k o s = M k o s) → M2 76 0 29 = g_lines (p_T A cnt D) a b fl m sh → M2 76 0 30 = g_grown (p_T A cnt D) a b fl m sh → M2 76 0 31 = g_fill (p_T A cnt D) a b fl m sh → M2 76 0 32 = g_cost (p_T A cnt D) a b fl m sh → b201_564 d h f u0 u1 u2 u3 u4 u6 u7 u8 u9 bf u11 u12 u13 u14 u15 u16 u17 u18 u19 u20 (g_last (p_T A cnt D) a b fl m sh) u22 u23 u24 M2 := by
    intro M2 u0 u1 u2 u3 u4 u6 u7 u8 u9 u11 u12 u13 u14 u15 u16 u17 u18 u19 u20 u22 u23 u24 hc O2 v29 v30 v31 v32
    have fi := (nums.2.2.2.2.2 hc.2.2).2.2.2.1
    have fin : g_far (p_T A cnt D) a b fl m sh x = 0 → f 1 M2 := fun z => H1 hc M2 O2 v29 v30 v31 (by rw [v32, z]; omega)
    refine w201_564 hS ⟨fun l0 => ⟨fun q => fin ?_, fun q => ?_⟩, fun l1 => fin ?_⟩
    · unfold g_far
      rcases hx with z | ⟨z1, z2⟩
      · omega
      · rcases z2 with z2 | z2
        · rw [if_pos z2]
        · rw [if_neg (by omega), if_pos z2]
    · rcases hx with ⟨z1, z2, z3⟩ | z
      · have eg : g_far (p_T A cnt D) a b fl m sh x = if g_fill (p_T A cnt D) a b fl m sh ≤ bf then bf - g_fill (p_T A cnt D) a b fl m sh else g_fill (p_T A cnt D) a b fl m sh - bf := by
          unfold g_far
          rw [if_neg (by omega), if_neg (by omega), if_pos l0]
          (repeat' split) <;> omega
        have cb := nums.2.2.2.2.2 hc.2.2
        rw [v31, v32]
        refine ⟨⟨fun _ => ⟨by omega, by omega⟩, fun _ => ⟨by omega, by omega⟩⟩, fun y hy => ?_⟩
        have ey : y = g_far (p_T A cnt D) a b fl m sh x := by rw [hy, eg]
        have yb : 0 ≤ y ∧ y ≤ 15 := by rw [hy]; split <;> omega
        have cc : -1000 ≤ g_cost (p_T A cnt D) a b fl m sh ∧ g_cost (p_T A cnt D) a b fl m sh ≤ 100000 := by
          have := (nums.2.2.2.2.2 hc.2.2).2.2.2.2.2
          omega
        refine ⟨⟨by omega, by omega⟩, fun M3 f3 => H1 hc M3 (fun k o s q => ?_) ?_ ?_ ?_ ?_⟩
        · rw [f3]; unfold qU; rw [if_neg (fun z => q ⟨z.1, z.2.1, by omega⟩)]; exact O2 k o s q
        · rw [f3, qU_l (by decide)]; exact v29
        · rw [f3, qU_l (by decide)]; exact v30
        · rw [f3, qU_l (by decide)]; exact v31
        · rw [f3, qU_s, ey]
      · omega
    · unfold g_far
      (repeat' split) <;> first | rfl | (exfalso; omega)
  have hlines : 0 ≤ g_lines (p_T A cnt D) a b fl m sh ∧ g_lines (p_T A cnt D) a b fl m sh ≤ p_nl A b - sh := nums.2.2.1 |> fun z => ⟨z.1, z.2.1⟩
  have hmono := p_row_mono hA.2.2.2.1 (a := a) (b := b) ⟨a1.1, by omega, hab.2⟩
  -- lines of notes, row by row
  have blk : ∀ (k x19 : Int) (u3 u11 u17 u21 u22 u23 u24 : qV), g_high (p_T A cnt D) a b fl m ≤ D → (b < p_SR A cnt → ∀ q, a ≤ q → q < b → p_T A cnt D 7 q ≤ b - 1 - q) → a ≤ k → k ≤ b → x19 = (if p_nl A a < p_nl A k then p_ls A k - 1 else -1) → b201_240 d h f u3 n c a fl sh bf u11 m b (p_bl A b - p_bl A (a + 1)) (g_high (p_T A cnt D) a b fl m) (p_nl A b - sh) u17 (g_lines (p_T A cnt D) a b fl m sh) x19 k u21 u22 u23 u24 M := by
    intro k x19 u3 u11 u17 u21 u22 u23 u24 hH hN ka kb
    refine q_upto (P := fun k => ∀ (x19 : Int) (u21 u22 u23 u24 : qV), a ≤ k → x19 = (if p_nl A a < p_nl A k then p_ls A k - 1 else -1) → b201_240 d h f u3 n c a fl sh bf u11 m b (p_bl A b - p_bl A (a + 1)) (g_high (p_T A cnt D) a b fl m) (p_nl A b - sh) u17 (g_lines (p_T A cnt D) a b fl m sh) x19 k u21 u22 u23 u24 M) (a := k) (b := b) kb ?_ ?_ x19 u21 u22 u23 u24 ka
    · intro x19 u21 u22 u23 u24 _ hx19
      have g1 := nums.1
      refine w201_240 hS ⟨fun q => absurd q (by omega), fun _ => ⟨⟨by omega, by omega⟩, fun q => H0 (fun hc => ?_), fun q => ?_⟩⟩
      · have o3 : p_ls A b ≤ sh + g_lines (p_T A cnt D) a b fl m sh := hc.2.2.2.2
        by_cases z : p_nl A a < p_nl A b
        · rw [if_pos z] at hx19; omega
        · rw [if_neg z] at hx19; omega
      · have o3 : p_ls A b ≤ sh + g_lines (p_T A cnt D) a b fl m sh := by
          by_cases z : p_nl A a < p_nl A b
          · rw [if_pos z] at hx19; omega
          · have : p_ls A b = p_ls A a := hmono.2.2.2.1 (by omega)
            omega
        have gok : g_ok (p_T A cnt D) a b fl m sh := ⟨by rw [T8.2.1]; exact hH, by rw [T8.1]; exact hN, o3⟩
        have hc : g_can (p_T A cnt D) a fl sh b m := ⟨⟨hab.1, by rw [T8.1]; exact hab.2⟩, hm, gok⟩
        have nk := nums.2.2.2.2.2 gok
        rw [T8.2.1] at nk
        rw [s0, m2, m19]
        refine ⟨⟨by omega, by omega⟩, ⟨by omega, by omega⟩, ⟨by omega, by omega⟩, ⟨by omega, by omega⟩, ⟨by omega, by omega⟩, fun ov hov => ⟨fun _ => ⟨by omega, by omega⟩, fun fi0 hfi0 => ?_⟩⟩
        rw [sfl] at hov
        have eov : ov = g_last (p_T A cnt D) a b fl m sh := by
          rw [hov]
          unfold g_last
          rw [T8.1, hlate, e2]
          (repeat' split) <;> first | rfl | (exfalso; omega)
        have efi : g_high (p_T A cnt D) a b fl m + fi0 = g_fill0 (p_T A cnt D) a b fl m sh := by rw [hfi0]; rfl
        rw [efi, sfl]
        refine ⟨⟨by omega, by omega⟩, ⟨by omega, by omega⟩, fun gr hgr M1 f1 M2 f2 => ?_⟩
        have egr : gr = g_grown (p_T A cnt D) a b fl m sh := by
          rw [hgr, eov]
          unfold g_grown
          rw [T8.2.1, e0, e0]
          (repeat' split) <;> omega
        rw [egr] at f2 ⊢
        have eF : g_fill0 (p_T A cnt D) a b fl m sh + g_grown (p_T A cnt D) a b fl m sh = g_fill (p_T A cnt D) a b fl m sh := rfl
        rw [eF]
        refine ⟨⟨by omega, by omega⟩, fun M3 f3 => ⟨⟨by omega, by omega⟩, ⟨by omega, by omega⟩, ⟨by omega, by omega⟩, ⟨by omega, by omega⟩, ?_⟩⟩
        have O3 : ∀ (k : Nat) (o s : Int), ¬ (k = 76 ∧ o = 0 ∧ 29 ≤ s ∧ s ≤ 32) → M3 k o s = M k o s := fun k o s q => by
          rw [f3, f2, f1]
          unfold qU
          rw [if_neg (fun z => q ⟨z.1, z.2.1, by omega⟩), if_neg (fun z => q ⟨z.1, z.2.1, by omega⟩), if_neg (fun z => q ⟨z.1, z.2.1, by omega⟩)]
        have v29 : M3 76 0 29 = g_lines (p_T A cnt D) a b fl m sh := by rw [f3, qU_l (by decide), f2, qU_l (by decide), f1, qU_s]
        have v30 : M3 76 0 30 = g_grown (p_T A cnt D) a b fl m sh := by rw [f3, qU_l (by decide), f2, qU_s]
        have v31 : M3 76 0 31 = g_fill (p_T A cnt D) a b fl m sh := by rw [f3, qU_s]
        have K3 := k_ch_fr hK O3
        refine L200 hS K3 ⟨a1.1, by omega⟩ (fun y1 hy1 => ?_)
        rw [show (if (1 : Int) = 0 then p_f1 A a else p_l1 A a) = p_l1 A a from rfl] at hy1
        have y1b : 0 ≤ y1 ∧ y1 ≤ 15 := by rw [hy1]; split <;> omega
        refine ⟨⟨by omega, by omega⟩, ⟨by omega, by omega⟩, L200 hS K3 ⟨by omega, by omega⟩ (fun y2 hy2 => ?_)⟩
        rw [show (if (0 : Int) = 0 then p_f1 A (b - 1) else p_l1 A (b - 1)) = p_f1 A (b - 1) from rfl] at hy2
        have y2b : 0 ≤ y2 ∧ y2 ≤ 15 := by rw [hy2]; split <;> omega
        refine ⟨⟨by omega, by omega⟩, fun M4 f4 => ?_⟩
        have O4 : ∀ (k : Nat) (o s : Int), ¬ (k = 76 ∧ o = 0 ∧ 29 ≤ s ∧ s ≤ 32) → M4 k o s = M k o s := fun k o s q => by
          rw [f4]
          unfold qU
          rw [if_neg (fun z => q ⟨z.1, z.2.1, by omega⟩)]
          exact O3 k o s q
        have w29 : M4 76 0 29 = g_lines (p_T A cnt D) a b fl m sh := by rw [f4, qU_l (by decide)]; exact v29
        have w30 : M4 76 0 30 = g_grown (p_T A cnt D) a b fl m sh := by rw [f4, qU_l (by decide)]; exact v30
        have w31 : M4 76 0 31 = g_fill (p_T A cnt D) a b fl m sh := by rw [f4, qU_l (by decide)]; exact v31
        have w32 : M4 76 0 32 = 3 * (p_fl A b - fl - m) + 2 * (p_nl A b - sh - g_lines (p_T A cnt D) a b fl m sh) + y1 + y2 := by rw [f4, qU_s]
        have een : y1 + y2 = g_ends (p_T A cnt D) a b := by rw [hy1, hy2]; rfl
        have ecost : g_cost (p_T A cnt D) a b fl m sh = 3 * (p_fl A b - fl - m) + 2 * (p_nl A b - sh - g_lines (p_T A cnt D) a b fl m sh) + (y1 + y2) + (if g_last (p_T A cnt D) a b fl m sh = 0 then g_grown (p_T A cnt D) a b fl m sh + g_lack (p_T A cnt D) a b fl m sh * g_lack (p_T A cnt D) a b fl m sh else 0) := by rw [een]; rfl
        have elack : g_lack (p_T A cnt D) a b fl m sh = D - g_fill0 (p_T A cnt D) a b fl m sh - g_grown (p_T A cnt D) a b fl m sh := by unfold g_lack; rw [T8.2.1]
        rw [eov]
        refine ⟨fun l0 => ?_, fun l1 => last M4 _ _ _ _ _ _ _ _ _ _ _ _ _ _ _ _ _ _ _ _ _ _ hc O4 w29 w30 w31 ?_⟩
        · rw [← elack]
          have sq := q_sq (x := g_lack (p_T A cnt D) a b fl m sh) (by omega) (by omega)
          have sq2 : g_lack (p_T A cnt D) a b fl m sh * g_lack (p_T A cnt D) a b fl m sh ≤ 14 * 14 := Int.mul_le_mul (by omega) (by omega) (by omega) (by decide)
          rw [w32]
          refine ⟨⟨by omega, by omega⟩, ⟨by omega, by omega⟩, sq.1, ⟨by omega, by omega⟩, ⟨by omega, by omega⟩, fun M5 f5 => last M5 _ _ _ _ _ _ _ _ _ _ _ _ _ _ _ _ _ _ _ _ _ _ hc (fun k o s q => ?_) ?_ ?_ ?_ ?_⟩
          · rw [f5]
            unfold qU
            rw [if_neg (fun z => q ⟨z.1, z.2.1, by omega⟩)]
            exact O4 k o s q
          · rw [f5, qU_l (by decide)]; exact w29
          · rw [f5, qU_l (by decide)]; exact w30
          · rw [f5, qU_l (by decide)]; exact w31
          · rw [f5, qU_s, ecost, if_pos l0]; omega
        · rw [w32, ecost, if_neg l1]; omega
    · intro k k0 k1 ih x19 u21 u22 u23 u24 ka2 hx19
      obtain ⟨r1, r2, r3, r4⟩ := k_row hA hr (Int.le_refl _) (q := k) ⟨by omega, by omega⟩
      have fr := k_fr ok (q := k) ⟨by omega, by omega⟩
      have to := k_to (A := A) (q := k) (by omega)
      have sk := hs k (by omega) (by omega)
      have tk := g_tab_at hT (a := k) ⟨by omega, by rw [T8.1]; omega⟩
      rw [T8.2.2.2, e2] at tk
      have mk := p_row_mono hA.2.2.2.1 (a := a) (b := k) ⟨a1.1, by omega, by omega⟩
      refine w201_240 hS ⟨fun _ => ⟨⟨by omega, by omega⟩, ⟨by omega, by omega⟩, ⟨by omega, by omega⟩, ⟨by omega, by omega⟩, L195 hS ?_⟩, fun q => absurd (show k < b from k1) q⟩
      rw [r3, k_a15, sk, show (p_nl A k + 16 * p_fl A k) % 16 = p_nl A k by omega]
      -- the words of the row
      have inner : ∀ (w y19 y22 : Int) (v24 : qV), p_fr A k ≤ w → w ≤ p_to A k → y22 = p_NB A (p_ri A k) w → y19 = (if p_nl A a < p_NB A (p_ri A k) w then p_LS A (p_ri A k) w - 1 else -1) → b201_276 d h f u3 n c a fl sh bf u11 m b (p_bl A b - p_bl A (a + 1)) (g_high (p_T A cnt D) a b fl m) (p_nl A b - sh) u17 (g_lines (p_T A cnt D) a b fl m sh) y19 k (M 71 0 (20 * c + k)) y22 w v24 M := by
        intro w y19 y22 v24 w0 w1
        refine q_upto (P := fun w => ∀ (y19 y22 : Int) (v24 : qV), p_fr A k ≤ w → y22 = p_NB A (p_ri A k) w → y19 = (if p_nl A a < p_NB A (p_ri A k) w then p_LS A (p_ri A k) w - 1 else -1) → b201_276 d h f u3 n c a fl sh bf u11 m b (p_bl A b - p_bl A (a + 1)) (g_high (p_T A cnt D) a b fl m) (p_nl A b - sh) u17 (g_lines (p_T A cnt D) a b fl m sh) y19 k (M 71 0 (20 * c + k)) y22 w v24 M) (a := w) (b := p_to A k) w1 ?_ ?_ y19 y22 v24 w0
        · intro y19 y22 v24 _ h22 h19
          refine w201_276 hS (L196 hS ⟨fun q => absurd q (by omega), fun _ => ⟨⟨by omega, by omega⟩, ih _ _ _ _ _ (by omega) ?_⟩⟩)
          rw [to.2.1, to.2.2]; exact h19
        · intro w w0 w1 ihw y19 y22 v24 w00 h22 h19
          have wd := k_wd hA hw (i := p_ri A k) (w := w) ⟨r1.1.1, r1.1.2.1⟩ ⟨by omega, by omega⟩
          have ww := hw (p_ri A k) w r1.1.1 r1.1.2.1 (by omega) (by omega)
          have cb := k_cd_b (M := M) (it := 6 * c + p_ri A k) (w := w)
          have nb := p_NB_s (A := A) (i := p_ri A k) (w := w) (by omega)
          have lsn := p_LS_s (A := A) (i := p_ri A k) (w := w) (by omega)
          have ne := p_FB_end ok (i := p_ri A k) (w := w) ⟨r1.1.1, r1.1.2.1⟩ ⟨by omega, by omega⟩
          have ne0 := p_from_w hA.2.2.2.1 (F0 := p_fl A k) (N0 := p_nl A k) (L0 := p_ls A k) (i := p_ri A k) (w := p_fr A k) (w' := w) ⟨r1.1.1, r1.1.2.1⟩ ⟨by omega, by omega, by omega⟩ (by
            have := p_row_mono hA.2.2.2.1 (a := k) (b := k) ⟨by omega, by omega, by omega⟩
            exact ⟨by omega, by omega, by omega, fun _ => fr.2.2, by omega, by omega, by omega⟩)
          refine w201_276 hS (L196 hS ⟨fun _ => ⟨⟨by omega, by omega⟩, ?_⟩, fun q => absurd (by rw [r4]; exact w1) q⟩)
          rw [k_a15, r2]
          refine ⟨⟨by omega, by omega⟩, L187 hS wd.1 wd.2.1 (L188 hS ?_)⟩
          rw [ww.1, ww.2]
          refine ⟨fun k2 => ?_, fun z1 hz1 z2 hz2 => ⟨⟨by omega, by omega⟩, ihw _ _ _ (by omega) ?_ ?_⟩⟩
          · have := wd.2.2 k2
            exact ⟨by omega, by omega⟩
          · rw [hz2, nb, h22]
            by_cases k2 : A 4 (p_ri A k) w = 2
            · rw [if_pos k2, if_pos k2]
            · rw [if_neg k2, if_neg k2]; omega
          · rw [hz1, nb, lsn]
            by_cases k2 : A 4 (p_ri A k) w = 2
            · have := wd.2.2 k2
              have l0 := ne0.2.1
              rw [if_pos k2, if_pos k2, if_pos k2, if_pos (by omega), h22]
              omega
            · rw [if_neg k2, if_neg k2, if_neg k2, Int.add_zero]; exact h19
      refine inner (p_fr A k) x19 (p_nl A k) u24 (Int.le_refl _) r1.2.2.1 fr.2.1.symm ?_
      rw [fr.2.1, fr.2.2]; exact hx19
  -- heads that come too late
  have late : ∀ (k : Int) (u3 u11 u17 u18 u19 u20 u21 u22 u23 u24 : qV), g_high (p_T A cnt D) a b fl m ≤ D → a ≤ k → k ≤ b → (b < p_SR A cnt → ∀ q, a ≤ q → q < k → p_T A cnt D 7 q ≤ b - 1 - q) → b201_107 d h f u3 n c a fl sh bf u11 m b (p_bl A b - p_bl A (a + 1)) (g_high (p_T A cnt D) a b fl m) k u17 u18 u19 u20 u21 u22 u23 u24 M := by
    intro k u3 u11 u17 u18 u19 u20 u21 u22 u23 u24 hH ka kb
    refine q_upto (P := fun k => ∀ u17 : qV, a ≤ k → (b < p_SR A cnt → ∀ q, a ≤ q → q < k → p_T A cnt D 7 q ≤ b - 1 - q) → b201_107 d h f u3 n c a fl sh bf u11 m b (p_bl A b - p_bl A (a + 1)) (g_high (p_T A cnt D) a b fl m) k u17 u18 u19 u20 u21 u22 u23 u24 M) (a := k) (b := b) kb ?_ ?_ u17 ka
    · intro u17 _ hN
      have g1 := nums.1
      refine w201_107 hS ⟨fun q => absurd q (by omega), fun _ => ⟨⟨by omega, by omega⟩, ?_⟩⟩
      rw [s0, k_a15, snl, m2]
      refine ⟨⟨by omega, by omega⟩, ⟨by omega, by omega⟩, ⟨by omega, by omega⟩, fun ln hln => ?_⟩
      have eln : ln = g_lines (p_T A cnt D) a b fl m sh := by
        rw [hln]
        unfold g_lines
        rw [hrm, e2]
        (repeat' split) <;> omega
      rw [eln]
      refine blk a _ _ _ _ _ _ _ _ hH hN (Int.le_refl _) (by omega) ?_
      rw [if_neg (by omega)]
    · intro k k0 k1 ih u17 ka2 hN
      obtain ⟨r1, r2, r3, r4⟩ := k_row hA hr (Int.le_refl _) (q := k) ⟨by omega, by omega⟩
      obtain ⟨i0, i1, i2, i3⟩ := hi _ r1.1.1 r1.1.2.1
      have it := (ok.2.1 _ r1.1.1 r1.1.2.1).2
      have t7 : p_T A cnt D 7 k = p_nd A k := by
        have z : p_T A cnt D 7 k = if 0 ≤ k ∧ k < p_SR A cnt then p_nd A k else 0 := rfl
        rw [z, if_pos ⟨by omega, by omega⟩]
      have nxt : (b < p_SR A cnt → p_nd A k ≤ b - 1 - k) → ∀ u, b201_107 d h f u3 n c a fl sh bf u11 m b (p_bl A b - p_bl A (a + 1)) (g_high (p_T A cnt D) a b fl m) (k + 1) u u18 u19 u20 u21 u22 u23 u24 M := fun hk u => ih u (by omega) (fun hb q q0 q1 => by
        by_cases z : q = k
        · rw [z, t7]; exact hk hb
        · exact hN hb q q0 (by omega))
      refine w201_107 hS ⟨fun _ => ⟨⟨by omega, by omega⟩, ⟨by omega, by omega⟩, ⟨by omega, by omega⟩, ⟨by omega, by omega⟩, ?_⟩, fun q => absurd (show k < b from k1) q⟩
      rw [k_a15, r2]
      refine ⟨⟨by omega, by omega⟩, L190 hS ⟨by omega, by omega⟩ i0 ?_⟩
      rw [i2, m19, k_a3]
      refine ⟨fun z => ⟨⟨by omega, by omega⟩, nxt (fun _ => ?_) _⟩, fun z => ⟨⟨by omega, by omega⟩, ⟨by omega, by omega⟩, fun bs => ⟨⟨by omega, by omega⟩, ⟨by omega, by omega⟩, ⟨by omega, by omega⟩, ?_⟩, fun bs => ⟨⟨by omega, by omega⟩, nxt (fun y => absurd y bs) _⟩⟩⟩
      · unfold p_nd
        rw [if_pos z]; omega
      · rw [i3 z]
        have nd : p_nd A k = A 1 (p_ri A k) 0 := by unfold p_nd; rw [if_neg z]
        refine ⟨fun q => H0 (fun hc => ?_), fun q => ⟨⟨by omega, by omega⟩, nxt (fun _ => by omega) _⟩⟩
        have := hc.2.2.2.1 (by rw [T8.1]; exact bs) k ka2 k1
        rw [t7] at this
        omega
  -- the heights of the floats
  have hts : ∀ (k us : Int) (u11 u17 u18 u19 u20 u21 u22 u23 u24 : qV), fl ≤ k → k ≤ fl + m → us = b - a + (p_bl A b - p_bl A (a + 1)) + p_hi A cnt k - p_hi A cnt fl → b201_62 d h f n c a fl sh bf u11 m b (p_bl A b - p_bl A (a + 1)) us k u17 u18 u19 u20 u21 u22 u23 u24 M := by
    intro k us u11 u17 u18 u19 u20 u21 u22 u23 u24 k0 k1
    refine q_upto (P := fun k => ∀ us : Int, fl ≤ k → us = b - a + (p_bl A b - p_bl A (a + 1)) + p_hi A cnt k - p_hi A cnt fl → b201_62 d h f n c a fl sh bf u11 m b (p_bl A b - p_bl A (a + 1)) us k u17 u18 u19 u20 u21 u22 u23 u24 M) (a := k) (b := fl + m) k1 ?_ ?_ us k0
    · intro us _ hus
      have eh : us = g_high (p_T A cnt D) a b fl m := by rw [hus, hgh]
      refine w201_62 hS ⟨⟨by omega, by omega⟩, fun q => absurd q (by omega), fun _ => ?_⟩
      rw [m2, eh]
      refine ⟨fun q => late a _ _ _ _ _ _ _ _ _ _ q (Int.le_refl _) (by omega) (fun _ q q0 q1 => by omega), fun q => H0 (fun hc => ?_)⟩
      have := hc.2.2.1
      rw [T8.2.1] at this
      exact q this
    · intro k kk0 kk1 ih us k00 hus
      have fv := p_fv_bd hA.2.2.2.1 (k := k) ⟨by omega, by omega⟩
      have hn := hh.2.2 k k00 (by omega)
      have st : p_hi A cnt (k + 1) = p_hi A cnt k + p_fv A cnt k := p_sum_s (by omega)
      refine w201_62 hS ⟨⟨by omega, by omega⟩, fun _ => L199 hS hA hw hf ⟨by omega, by omega⟩ ⟨⟨by omega, by omega⟩, ⟨by omega, by omega⟩, ih _ (by omega) ?_⟩, fun q => absurd (show k < fl + m from kk1) q⟩
      rw [st, hus]; omega
  -- the blanks
  refine w201 hS ⟨⟨by omega, by omega⟩, ⟨by omega, by omega⟩, ?_⟩
  rw [show a + (b - a) = b by omega]
  refine q_upto (P := fun k => ∀ bl : Int, a + 1 ≤ k → bl = p_bl A k - p_bl A (a + 1) → b201_16 d h f n c a fl sh bf (b - a) m b bl k q_u q_u q_u q_u q_u q_u q_u q_u q_u M) (a := a + 1) (b := b) (by omega) ?_ ?_ 0 (Int.le_refl _) (by omega)
  · intro bl _ hbl'
    refine w201_16 hS ⟨fun q => absurd q (by omega), fun _ => ⟨⟨by omega, by omega⟩, ?_⟩⟩
    rw [hbl']
    exact hts fl _ _ _ _ _ _ _ _ _ _ (Int.le_refl _) (by omega) (by omega)
  · intro k k0 k1 ih bl k00 hbl'
    have bk := k_bl ok (q := k) ⟨by omega, by omega⟩
    have tk := hT.2.2.2.2.2.2.1 (a + 1) k (by omega) (by omega) (by rw [T8.1]; omega)
    rw [e0, e0] at tk
    refine w201_16 hS ⟨fun _ => L198 hS hA hr (Int.le_refl _) ⟨by omega, by omega⟩ (fun y hy => ?_), fun q => absurd k1 q⟩
    have ey : y = p_bl A (k + 1) - p_bl A k := by
      rw [hy, bk]
      (repeat' split) <;> omega
    have yb : 0 ≤ y ∧ y ≤ 1 := by rw [hy]; split <;> omega
    exact ⟨⟨by omega, by omega⟩, ⟨by omega, by omega⟩, ih _ (by omega) (by omega)⟩
end
