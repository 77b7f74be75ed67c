/-! ===== what a page of the law says; the place of a row ===== -/
theorem k_pkr {A : pA} {cnt c D ct cw k : Int} {P : pT} (hA : k_sz A cnt c) (hD : 8 ≤ D ∧ D ≤ 14) (pg : g_pages (p_T A cnt D) P ct cw) (hk : 0 ≤ k ∧ k < ct) : ((0 ≤ g_bf P 0 k ∧ g_bf P 0 k ≤ 16) ∧ (0 ≤ P 0 k - g_bf P 0 k ∧ P 0 k - g_bf P 0 k ≤ 14) ∧ P 0 k ≤ p_SR A cnt) ∧ ((0 ≤ g_bf P 1 k ∧ g_bf P 1 k ≤ 4) ∧ (0 ≤ P 1 k - g_bf P 1 k ∧ P 1 k - g_bf P 1 k ≤ 4) ∧ P 1 k ≤ p_SF A cnt) ∧ ((0 ≤ g_bf P 2 k ∧ g_bf P 2 k ≤ 12) ∧ (0 ≤ P 2 k - g_bf P 2 k ∧ P 2 k - g_bf P 2 k ≤ 12) ∧ P 2 k ≤ p_SN A cnt) ∧ (0 ≤ P 3 k ∧ P 3 k ≤ 14) ∧ (0 ≤ P 4 k ∧ P 4 k ≤ 14) := by
  have hT := p_T_tab hA.2.2.2.1 hD
  have s16 := hA.2.2.2.2
  have T8 := p_T_8 (A := A) (cnt := cnt) (D := D)
  have F4 := hT.2.2.1
  have N12 := hT.2.2.2.1
  rw [T8.2.2.1] at F4
  rw [T8.2.2.2] at N12
  have at1 := pg.2.2.2.2.1 k hk.1 (by omega)
  have at0 := at1.1
  rw [T8.1] at at0
  have ta := g_tab_at hT at1.1
  rw [T8.2.2.1, T8.2.2.2] at ta
  have b1 := at1.2.1
  have b2 := at1.2.2
  by_cases z : k < cw
  · have g3 := g_pages_3 hT pg (k := k) ⟨hk.1, z⟩
    obtain ⟨_, m, can, p0, p1, p2, p3, p4⟩ := pg.2.1 k hk.1 z
    have c1 := can.1
    rw [T8.1] at c1
    rw [T8.2.2.1, T8.2.2.2] at g3
    have nums := g_nums hT at1 can.1 ⟨can.2.1.1, can.2.1.2.2⟩
    have high : P 0 k - g_bf P 0 k ≤ 14 := by
      have hh := can.2.2.1
      have q0 := nums.2.1
      have c2 := can.2.1
      have tb := g_tab_at hT (a := P 0 k) ⟨by omega, by rw [T8.1]; omega⟩
      rw [T8.2.2.1, T8.2.2.2] at tb
      have h4 := hT.2.2.2.2.2.2.2.2.1 (g_bf P 1 k) (g_bf P 1 k + m) (by omega) (by omega) (by rw [T8.2.2.1]; omega)
      rw [T8.2.1] at hh
      unfold g_high at hh
      omega
    omega
  · obtain ⟨q1, q2, q3, q4, q5, q6⟩ := pg.2.2.1 k (by omega) hk.2
    have e0 := pg.2.2.2.1 k (by omega) (by omega)
    have bF := g_bF_p hT (f := g_bf P 1 k) (by rw [T8.2.2.1]; omega)
    have go := g_b_go hT (f := g_bf P 1 k) (n := g_bf P 2 k) (by rw [T8.2.2.1]; omega) (by rw [T8.2.2.2]; omega)
    rw [T8.2.2.1] at bF
    rw [T8.2.2.2] at go
    rw [T8.1] at q2 e0
    omega
section
variable {d : Nat} {h : qH} {A : pA} {cnt c D p0 ct cw k : Int} {P : pT} {M : qM}
/-- the fields of a page -/
theorem k_pgf (hA : k_sz A cnt c) (hD : 8 ≤ D ∧ D ≤ 14) (pg : g_pages (p_T A cnt D) P ct cw) (hP : k_Pg P ct p0 c M) (hk : 0 ≤ k ∧ k < ct) : (0 ≤ M 74 0 (p0 + 1 + k) ∧ M 74 0 (p0 + 1 + k) ≤ 2147483647) ∧ M 74 0 (p0 + 1 + k) % 8 = c ∧ M 74 0 (p0 + 1 + k) / 8 % 32 = g_bf P 0 k ∧ M 74 0 (p0 + 1 + k) / 256 % 16 = P 0 k - g_bf P 0 k ∧ M 74 0 (p0 + 1 + k) / 4096 % 8 = g_bf P 1 k ∧ M 74 0 (p0 + 1 + k) / 32768 % 8 = P 1 k - g_bf P 1 k ∧ M 74 0 (p0 + 1 + k) / 262144 % 16 = g_bf P 2 k ∧ M 74 0 (p0 + 1 + k) / 4194304 % 16 = P 2 k - g_bf P 2 k ∧ M 74 0 (p0 + 1 + k) / 67108864 = P 3 k ∧ M 75 0 (p0 + 1 + k) = P 4 k := by
  have r := k_pkr hA hD pg hk
  have c3 := hA.1
  have e := (hP k hk.1 hk.2).1
  have q := k_pk_p (kd := c) (a := g_bf P 0 k) (n := P 0 k - g_bf P 0 k) (fl := g_bf P 1 k) (m := P 1 k - g_bf P 1 k) (sh := g_bf P 2 k) (ln := P 2 k - g_bf P 2 k) (gr := P 3 k) (by omega) (by omega) (by omega) (by omega) (by omega) (by omega) (by omega) (by omega)
  rw [e.1]
  exact ⟨q.1, q.2.1, q.2.2.1, q.2.2.2.1, q.2.2.2.2.1, q.2.2.2.2.2.1, q.2.2.2.2.2.2.1, q.2.2.2.2.2.2.2.1, q.2.2.2.2.2.2.2.2, e.2⟩
theorem L206f {f : Int → qM → Prop} (hS : qSe h) {x : Int} (H : f (x / 4096 % 8) M) : e206 (d + 1) h x 12 7 M f := L206 hS ⟨by decide, by decide⟩ (by rw [k_a7]; exact H)
theorem L206l {f : Int → qM → Prop} (hS : qSe h) {x : Int} (H : f (x / 4194304 % 16) M) : e206 (d + 1) h x 22 15 M f := L206 hS ⟨by decide, by decide⟩ (by rw [k_a15]; exact H)
theorem L206h {f : Int → qM → Prop} (hS : qSe h) {x : Int} (H : f (x / 262144 % 16) M) : e206 (d + 1) h x 18 15 M f := L206 hS ⟨by decide, by decide⟩ (by rw [k_a15]; exact H)
/-- the place of a row on its page -/
theorem L219 {f : Int → qM → Prop} {row : Int} (hS : qSe h) (hK : k_ch A cnt c D M) (hf : k_flt A cnt c M) (pg : g_pages (p_T A cnt D) P ct cw) (hP : k_Pg P ct p0 c M) (hp0 : 0 ≤ p0 ∧ p0 + ct ≤ 61) (hk : 0 ≤ k ∧ k < ct) (hr : g_bf P 0 k ≤ row ∧ row < P 0 k) (H : f (mg_pl (p_T A cnt D) P k row) M) : e219 (d + 3) h (p0 + 1 + k) row M f := by
  obtain ⟨hA, hD, ⟨m2, m19⟩, hrw, hi, hw⟩ := id hK
  have hT := p_T_tab hA.2.2.2.1 hD
  have T8 := p_T_8 (A := A) (cnt := cnt) (D := D)
  have r := k_pkr hA hD pg hk
  have q := k_pgf hA hD pg hP hk
  have e0 : ∀ r, p_T A cnt D 0 r = p_bl A r := fun _ => rfl
  have e4 : ∀ r, p_T A cnt D 4 r = p_hi A cnt r := fun _ => rfl
  have base : ∀ (bs : Int) (u0 u3 u4 u5 : qV), bs = mg_base (p_T A cnt D) P k → 0 ≤ bs ∧ bs ≤ 5 → b219_73 d h f u0 u3 u4 u5 row c (P 3 k) bs (g_bf P 0 k) M := by
    intro bs u0 u3 u4 u5 hbs bb
    refine q_upto (P := fun at' => ∀ pl gr : Int, g_bf P 0 k ≤ at' → gr = P 3 k - (p_bl A (at' + 1) - p_bl A (g_bf P 0 k + 1)) → pl = bs + (at' - g_bf P 0 k) + (p_bl A (at' + 1) - p_bl A (g_bf P 0 k + 1)) + mg_min (p_bl A (at' + 1) - p_bl A (g_bf P 0 k + 1)) (P 3 k) → b219_73 d h f u0 u3 u4 u5 row c gr pl at' M) (a := g_bf P 0 k) (b := row) hr.1 (fun pl gr _ hg hpl => ?_) (fun at' a0 a1 ih pl gr _ hg hpl => ?_) bs (P 3 k) (Int.le_refl _) (by omega) (by unfold mg_min; split <;> omega)
    · refine w219_73 hS ⟨fun z => absurd z (Int.lt_irrefl _), fun _ => ?_⟩
      have e : pl = mg_pl (p_T A cnt D) P k row := by
        unfold mg_pl
        rw [e0, e0, ← hbs]
        exact hpl
      rw [e]; exact H
    · have tb := hT.2.2.2.2.2.2.1 (g_bf P 0 k + 1) (at' + 1) (by omega) (by omega) (by rw [T8.1]; omega)
      have tn := hT.2.2.2.2.2.2.1 (at' + 1) (at' + 1 + 1) (by omega) (by omega) (by rw [T8.1]; omega)
      rw [e0, e0] at tb tn
      have mb : mg_min (p_bl A (at' + 1) - p_bl A (g_bf P 0 k + 1)) (P 3 k) ≤ P 3 k := by unfold mg_min; split <;> omega
      have mb2 : 0 ≤ mg_min (p_bl A (at' + 1) - p_bl A (g_bf P 0 k + 1)) (P 3 k) := by unfold mg_min; split <;> omega
      refine w219_73 hS ⟨fun _ => ⟨⟨by omega, by omega⟩, ⟨by omega, by omega⟩, L198 hS hA hrw (Int.le_refl _) ⟨by omega, by omega⟩ ?_⟩, fun z => absurd a1 z⟩
      refine ⟨fun _ => ⟨fun _ => ⟨⟨by omega, by omega⟩, by omega, by omega⟩, fun _ => ⟨⟨by omega, by omega⟩, by omega, by omega⟩⟩, fun g2 hg2 p2 hp2 => ⟨⟨by omega, by omega⟩, ih p2 g2 (by omega) ?_ ?_⟩⟩
      · rw [hg2]
        by_cases z : p_bl A (at' + 1 + 1) - p_bl A (at' + 1) = 0
        · rw [if_pos z]; omega
        · rw [if_neg z]; omega
      · rw [hp2]
        unfold mg_min at hpl ⊢
        by_cases z : p_bl A (at' + 1 + 1) - p_bl A (at' + 1) = 0
        · rw [if_pos z, show p_bl A (at' + 1 + 1) = p_bl A (at' + 1) by omega]
          omega
        · rw [if_neg z]
          have one : p_bl A (at' + 1 + 1) = p_bl A (at' + 1) + 1 := by omega
          rw [one]
          by_cases y : gr ≤ 0
          · rw [if_pos y]
            rw [if_neg (by omega)] at hpl
            rw [if_neg (by omega)]
            omega
          · rw [if_neg y]
            rw [if_pos (by omega)] at hpl
            by_cases x : p_bl A (at' + 1) + 1 - p_bl A (g_bf P 0 k + 1) < P 3 k
            · rw [if_pos x]; omega
            · rw [if_neg x]; omega
  refine w219 hS ⟨⟨by omega, by omega⟩, ⟨by omega, by omega⟩, ⟨by omega, by omega⟩, L206m hS ?_⟩
  rw [k_a7, q.2.1, q.2.2.2.2.2.1, q.2.2.2.2.2.2.2.2.1]
  refine ⟨fun none => ⟨⟨by omega, by omega⟩, L206a hS ?_⟩, fun some => ⟨⟨by omega, by omega⟩, L206f hS ?_⟩⟩
  · rw [q.2.2.1]
    exact base 0 _ _ _ _ (by unfold mg_base; rw [if_pos (by omega)]) (by omega)
  · rw [q.2.2.2.2.1]
    have fv := p_fv_bd hA.2.2.2.1 (k := g_bf P 1 k) ⟨by omega, by omega⟩
    have st : p_hi A cnt (g_bf P 1 k + 1) = p_hi A cnt (g_bf P 1 k) + p_fv A cnt (g_bf P 1 k) := p_sum_s (by omega)
    refine L199 hS hA hw hf ⟨by omega, by omega⟩ ⟨⟨by omega, by omega⟩, L206a hS ?_⟩
    rw [q.2.2.1]
    exact base _ _ _ _ _ (by unfold mg_base; rw [if_neg (by omega), e4, e4, st]; omega) (by omega)
end
