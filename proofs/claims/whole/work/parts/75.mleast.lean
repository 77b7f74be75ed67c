/-! ===== FacingleafModel.goesThrough, leastFrom ===== -/
abbrev m_I : Int := 536870912
/-- marking: what can follow is reached -/
theorem t193m {d : Nat} {h : qH} (hS : qSe h) {T : pT} {c a f n y : Int} {M : qM} {F : qM → Prop} (hT : g_tab T) (h67 : T 8 0 ≤ 67) (hM : g_mT T c M) (hs : m_ok T a f n y) (ha : a < T 8 0)
    (H : ∀ M', (∀ (k : Nat) (m s : Int), ¬ (k = 11 ∧ m = 0 ∧ 51 ≤ s ∧ s ≤ 57) → ¬ (k = 103 ∧ m = 0 ∧ (a + 1) * 300 ≤ s) → ¬ (k = 104 ∧ m = 0) → M' k m s = M k m s) → (∀ s, M' 103 0 s = M 103 0 s ∨ (M' 103 0 s = 1 ∧ ∃ b m, g_can T a f n b m ∧ s = m_nx T a f n y b m)) → (∀ b m, g_can T a f n b m → M' 103 0 (m_nx T a f n y b m) = 1) → F M') : e193 (d + 4) h c (m_st T a f n y) 1 M F := by
  have h70 := hT.1
  have hD := hT.2.1
  have hF := hT.2.2.1
  have ps := m_st_p hT hs
  have hs1 := hs.1.1
  have hs2 := hs.1.2.1
  have ta := g_tab_at hT hs1
  let R : (Int → Int → Prop) → qM → Prop := fun done M' => (∀ (k : Nat) (m s : Int), ¬ (k = 11 ∧ m = 0 ∧ 51 ≤ s ∧ s ≤ 57) → ¬ (k = 103 ∧ m = 0 ∧ (a + 1) * 300 ≤ s) → ¬ (k = 104 ∧ m = 0) → M' k m s = M k m s) ∧ (∀ s, M' 103 0 s = M 103 0 s ∨ (M' 103 0 s = 1 ∧ ∃ b m, g_can T a f n b m ∧ s = m_nx T a f n y b m)) ∧ ∀ b m, done b m → g_can T a f n b m → M' 103 0 (m_nx T a f n y b m) = 1
  have keep : ∀ D M', R D M' → g_mT T c M' := fun D M' hR => g_mT_fr hM (fun k m s q => hR.1 k m s (by omega) (by omega) (by omega))
  have outer : ∀ (u7 u8 u9 : qV) (M' : qM), R (fun b _ => b < a + 1) M' → b193_28 d h F c (m_st T a f n y) 1 f a (a + 1) u7 u8 u9 M' := by
    refine q_upto (P := fun b => a < b → ∀ (u7 u8 u9 : qV) (M' : qM), R (fun b' _ => b' < b) M' → b193_28 d h F c (m_st T a f n y) 1 f a b u7 u8 u9 M') (a := a + 1) (b := T 8 0 + 1) (by omega) ?_ ?_ (by omega)
    · intro _ u7 u8 u9 M' hR
      have hM' := keep _ M' hR
      refine w193_28 hS ⟨hM.1, fun q => by rw [hM'.2.1] at q; omega, fun _ => H M' hR.1 hR.2.1 (fun b m hc => hR.2.2 b m (by have := hc.1; omega) hc)⟩
    · intro b b0 b1 ih hab u7 u8 u9 M' hR
      have hM' := keep _ M' hR
      have tb := g_tab_at hT (a := b) ⟨by omega, by omega⟩
      have dm := hT.2.2.2.2.2.2.1 a b hs1.1 (by omega) (by omega)
      refine w193_28 hS ⟨hM.1, fun _ => ⟨⟨by omega, by omega⟩, fun kd => t192 hS hT hM' ⟨by omega, by omega⟩ ⟨hs2.1, by omega⟩ ?_, fun kd => H M' hR.1 hR.2.1 (fun b' m hc => hR.2.2 b' m (by have := g_can_D hT hs.1 hc; rw [hM'.2.2.1] at kd; omega) hc)⟩, fun q => by rw [hM'.2.1] at q; omega⟩
      have inner : ∀ (mm : Int), -1 ≤ mm → mm ≤ 2 → f + mm ≤ T 1 b ∨ mm = -1 → ∀ (u8 u9 : qV) (M1 : qM), R (fun b' m' => b' < b ∨ (b' = b ∧ mm < m')) M1 → b193_61 d h F c (m_st T a f n y) 1 f a b mm u8 u9 M1 := by
        intro mm hmm
        refine q_dnto (P := fun mm => mm ≤ 2 → f + mm ≤ T 1 b ∨ mm = -1 → ∀ (u8 u9 : qV) (M1 : qM), R (fun b' m' => b' < b ∨ (b' = b ∧ mm < m')) M1 → b193_61 d h F c (m_st T a f n y) 1 f a b mm u8 u9 M1) (a := -1) (b := mm) hmm ?_ ?_
        · intro _ _ u8 u9 M1 hR1
          refine w193_61 hS ⟨fun _ => ⟨⟨by omega, by omega⟩, ih (by omega) _ _ _ M1 ⟨hR1.1, hR1.2.1, fun b' m' hd hc => hR1.2.2 b' m' (by have := hc.2.1; omega) hc⟩⟩, fun q => absurd (by decide) q⟩
        · intro m m0 m1 ih2 hm2 hfm u8 u9 M1 hR1
          have hM1 := keep _ M1 hR1
          have hfm' : f + m ≤ T 1 b := by omega
          refine w193_61 hS ⟨fun q => by omega, fun _ => ⟨⟨by omega, by omega⟩, t198 hS hT hM1 hs ⟨hab, by omega⟩ ⟨by omega, hfm'⟩ (fun ok M2 O2 x1 x2 x3 x4 x5 => ⟨fun q => absurd q (by decide), fun _ => ?_⟩) (fun nok M2 O2 => ⟨fun _ => ⟨⟨by omega, by omega⟩, ?_⟩, fun q => absurd rfl q⟩)⟩⟩
          · have hc : g_can T a f n b m := ⟨⟨hab, by omega⟩, ⟨by omega, hm2, hfm'⟩, ok⟩
            have hM2 := g_mT_fr hM1 (M' := M2) (fun k m s q => O2 k m s (by omega))
            have nx := m_next hT hs hc
            have nxp := m_st_p hT nx.1
            have enx : m_nx T a f n y b m = m_st T b (f + m) (n + g_lines T a b f m n) (g_ahead T a b f m n (m_x a y)) := rfl
            rw [← enx] at nxp
            refine t191 hS hT hM2 hs hc x1 x2 x4 ⟨fun q => absurd q (by decide), fun _ => ⟨⟨by omega, by omega⟩, fun M3 f3 => ⟨⟨by omega, by omega⟩, ?_⟩⟩⟩
            rw [show m + -1 = m - 1 by omega]
            refine ih2 (by omega) (by omega) _ _ M3 ⟨fun k m' s q1 q2 q3 => ?_, fun s => ?_, fun b' m' hd hc' => ?_⟩
            · rw [f3]
              have := hR1.1 k m' s q1 q2 q3
              rw [← this, ← O2 k m' s q1]
              unfold qU
              rw [if_neg (by omega)]
            · by_cases e : s = m_nx T a f n y b m
              · right; exact ⟨by rw [f3, e, qU_s], b, m, hc, e⟩
              · rw [f3, qU_l e, O2 _ _ _ (by omega)]; exact hR1.2.1 s
            · by_cases e : m_nx T a f n y b' m' = m_nx T a f n y b m
              · rw [f3, e, qU_s]
              · rw [f3, qU_l e, O2 _ _ _ (by omega)]
                refine hR1.2.2 b' m' ?_ hc'
                by_cases e2 : b' = b ∧ m' = m
                · obtain ⟨rfl, rfl⟩ := e2; exact absurd rfl e
                · omega
          · rw [show m + -1 = m - 1 by omega]
            refine ih2 (by omega) (by omega) _ _ M2 ⟨fun k m' s q1 q2 q3 => by rw [O2 k m' s q1]; exact hR1.1 k m' s q1 q2 q3, fun s => by rw [O2 _ _ _ (by omega)]; exact hR1.2.1 s, fun b' m' hd hc' => ?_⟩
            rw [O2 _ _ _ (by omega)]
            refine hR1.2.2 b' m' ?_ hc'
            by_cases e2 : b' = b ∧ m' = m
            · obtain ⟨rfl, rfl⟩ := e2; exact absurd hc'.2.2 nok
            · omega
      refine inner _ (by split <;> omega) (by split <;> omega) (by split <;> omega) _ _ M' ⟨hR.1, hR.2.1, fun b' m' hd hc => hR.2.2 b' m' ?_ hc⟩
      rcases hd with hd | ⟨rfl, hd⟩
      · exact hd
      · exfalso
        have := hc.2.1
        split at hd <;> omega
  refine w193 hS (t189 hS ps.1.1 ?_)
  rw [ps.2.2.1, ps.2.1]
  refine ⟨ps.1.1, ⟨ps.1.1, by omega⟩, fun M1 f1 => ⟨⟨by omega, by omega⟩, ?_⟩⟩
  have O1 : ∀ (k : Nat) (m s : Int), ¬ (k = 104 ∧ m = 0) → M1 k m s = M k m s := fun k m s q => by rw [f1]; unfold qU; rw [if_neg (by omega)]
  exact outer _ _ _ M1 ⟨fun k m s _ _ q => O1 k m s q, fun s => Or.inl (O1 _ _ _ (by omega)), fun b m hd hc => by have := hc.1; omega⟩
/-- finding the least cost -/
theorem t193f {d : Nat} {h : qH} (hS : qSe h) {T : pT} {c a f n y : Int} {M : qM} {F : qM → Prop} (hT : g_tab T) (h67 : T 8 0 ≤ 67) (hM : g_mT T c M) (hs : m_ok T a f n y) (ha : a < T 8 0)
    (HV : ∀ b m, g_can T a f n b m → b < T 8 0 → M 104 0 (m_nx T a f n y b m) = g_V T m_I b (f + m) (n + g_lines T a b f m n) (g_ahead T a b f m n (m_x a y)))
    (H : ∀ M', (∀ (k : Nat) (m s : Int), ¬ (k = 11 ∧ m = 0 ∧ 51 ≤ s ∧ s ≤ 57) → ¬ (k = 104 ∧ m = 0 ∧ s = m_st T a f n y) → M' k m s = M k m s) → M' 104 0 (m_st T a f n y) = g_V T m_I a f n (m_x a y) → F M') : e193 (d + 4) h c (m_st T a f n y) 0 M F := by
  have h70 := hT.1
  have hD := hT.2.1
  have hF := hT.2.2.1
  have hN := hT.2.2.2.1
  have ps := m_st_p hT hs
  have hs1 := hs.1.1
  have hs2 := hs.1.2.1
  have ta := g_tab_at hT hs1
  have hx := m_xb (a := a) hs.2.1
  let R : (Int → Int → Prop) → qM → Prop := fun done M' => (∀ (k : Nat) (m s : Int), ¬ (k = 11 ∧ m = 0 ∧ 51 ≤ s ∧ s ≤ 57) → ¬ (k = 104 ∧ m = 0 ∧ s = m_st T a f n y) → M' k m s = M k m s) ∧ (0 ≤ M' 104 0 (m_st T a f n y) ∧ M' 104 0 (m_st T a f n y) ≤ m_I) ∧ (∀ b m, done b m → g_can T a f n b m → M' 104 0 (m_st T a f n y) ≤ g_val T m_I a f n (m_x a y) b m) ∧ (M' 104 0 (m_st T a f n y) = m_I ∨ ∃ b m, g_can T a f n b m ∧ M' 104 0 (m_st T a f n y) = g_val T m_I a f n (m_x a y) b m)
  have keep : ∀ D M', R D M' → g_mT T c M' := fun D M' hR => g_mT_fr hM (fun k m s q => hR.1 k m s (by omega) (by omega))
  have fin : ∀ D M', R D M' → (∀ b m, g_can T a f n b m → D b m) → F M' := by
    intro D M' hR hD
    refine H M' hR.1 ?_
    obtain ⟨v1, v2, v3⟩ := g_V_p (T := T) (I := m_I) (a := a) (f := f) (n := n) (x := m_x a y) ha
    refine Int.le_antisymm ?_ ?_
    · rcases v3 with v3 | ⟨b, m, hc, v3⟩
      · rw [v3]; exact hR.2.1.2
      · rw [v3]; exact hR.2.2.1 b m (hD b m hc) hc
    · rcases hR.2.2.2 with g3 | ⟨b, m, hc, g3⟩
      · rw [g3]; exact v1
      · rw [g3]; exact v2 b m hc
  have outer : ∀ (u7 u8 u9 : qV) (M' : qM), R (fun b _ => b < a + 1) M' → b193_28 d h F c (m_st T a f n y) 0 f a (a + 1) u7 u8 u9 M' := by
    refine q_upto (P := fun b => a < b → ∀ (u7 u8 u9 : qV) (M' : qM), R (fun b' _ => b' < b) M' → b193_28 d h F c (m_st T a f n y) 0 f a b u7 u8 u9 M') (a := a + 1) (b := T 8 0 + 1) (by omega) ?_ ?_ (by omega)
    · intro _ u7 u8 u9 M' hR
      have hM' := keep _ M' hR
      refine w193_28 hS ⟨hM.1, fun q => by rw [hM'.2.1] at q; omega, fun _ => fin _ M' hR (fun b m hc => by have := hc.1; omega)⟩
    · intro b b0 b1 ih hab u7 u8 u9 M' hR
      have hM' := keep _ M' hR
      have tb := g_tab_at hT (a := b) ⟨by omega, by omega⟩
      have dm := hT.2.2.2.2.2.2.1 a b hs1.1 (by omega) (by omega)
      refine w193_28 hS ⟨hM.1, fun _ => ⟨⟨by omega, by omega⟩, fun kd => t192 hS hT hM' ⟨by omega, by omega⟩ ⟨hs2.1, by omega⟩ ?_, fun kd => fin _ M' hR (fun b' m hc => by have := g_can_D hT hs.1 hc; rw [hM'.2.2.1] at kd; omega)⟩, fun q => by rw [hM'.2.1] at q; omega⟩
      have inner : ∀ (mm : Int), -1 ≤ mm → mm ≤ 2 → f + mm ≤ T 1 b ∨ mm = -1 → ∀ (u8 u9 : qV) (M1 : qM), R (fun b' m' => b' < b ∨ (b' = b ∧ mm < m')) M1 → b193_61 d h F c (m_st T a f n y) 0 f a b mm u8 u9 M1 := by
        intro mm hmm
        refine q_dnto (P := fun mm => mm ≤ 2 → f + mm ≤ T 1 b ∨ mm = -1 → ∀ (u8 u9 : qV) (M1 : qM), R (fun b' m' => b' < b ∨ (b' = b ∧ mm < m')) M1 → b193_61 d h F c (m_st T a f n y) 0 f a b mm u8 u9 M1) (a := -1) (b := mm) hmm ?_ ?_
        · intro _ _ u8 u9 M1 hR1
          refine w193_61 hS ⟨fun _ => ⟨⟨by omega, by omega⟩, ih (by omega) _ _ _ M1 ⟨hR1.1, hR1.2.1, fun b' m' hd hc => hR1.2.2.1 b' m' (by have := hc.2.1; omega) hc, hR1.2.2.2⟩⟩, fun q => absurd (by decide) q⟩
        · intro m m0 m1 ih2 hm2 hfm u8 u9 M1 hR1
          have hM1 := keep _ M1 hR1
          have hfm' : f + m ≤ T 1 b := by omega
          refine w193_61 hS ⟨fun q => by omega, fun _ => ⟨⟨by omega, by omega⟩, t198 hS hT hM1 hs ⟨hab, by omega⟩ ⟨by omega, hfm'⟩ (fun ok M2 O2 x1 x2 x3 x4 x5 => ⟨fun q => absurd q (by decide), fun _ => ?_⟩) (fun nok M2 O2 => ⟨fun _ => ⟨⟨by omega, by omega⟩, ?_⟩, fun q => absurd rfl q⟩)⟩⟩
          · have hc : g_can T a f n b m := ⟨⟨hab, by omega⟩, ⟨by omega, hm2, hfm'⟩, ok⟩
            have hM2 := g_mT_fr hM1 (M' := M2) (fun k m s q => O2 k m s (by omega))
            have nx := m_next hT hs hc
            have nxp := m_st_p hT nx.1
            have enx : m_nx T a f n y b m = m_st T b (f + m) (n + g_lines T a b f m n) (g_ahead T a b f m n (m_x a y)) := rfl
            rw [← enx] at nxp
            have nums := g_nums hT hs.1 hc.1 ⟨hc.2.1.1, hc.2.1.2.2⟩
            have nn := nums.2.2.2.2.2 ok
            have fb := g_far_bd (T := T) (a := a) (b := b) (f := f) (m := m) (n := n) nn.2.2.2.1 hx
            have hah := nx.1.2.1
            have vb := g_V_bd hT (I := m_I) ⟨by decide, by decide⟩ nx.1.1 (x := g_ahead T a b f m n (m_x a y)) ⟨by omega, by omega⟩
            have eval : g_cost T a b f m n + g_far T a b f m n (m_x a y) + g_V T m_I b (f + m) (n + g_lines T a b f m n) (g_ahead T a b f m n (m_x a y)) = g_val T m_I a f n (m_x a y) b m := rfl
            have i1 := hR1.2.1
            -- the new least
            have upd : ∀ (M4 : qM) (v : Int), (∀ (k : Nat) (m s : Int), ¬ (k = 11 ∧ m = 0 ∧ 51 ≤ s ∧ s ≤ 57) → M4 k m s = M2 k m s) → v = (if M1 104 0 (m_st T a f n y) < g_val T m_I a f n (m_x a y) b m then M1 104 0 (m_st T a f n y) else g_val T m_I a f n (m_x a y) b m) → ∀ M5, M5 = qU M4 104 0 (m_st T a f n y) v → R (fun b' m' => b' < b ∨ (b' = b ∧ m - 1 < m')) M5 := by
              intro M4 v O4 hv M5 f5
              have e5 : M5 104 0 (m_st T a f n y) = v := by rw [f5, qU_s]
              refine ⟨fun k m' s q1 q2 => ?_, ?_, fun b' m' hd hc' => ?_, ?_⟩
              · rw [f5]; unfold qU; rw [if_neg q2, O4 k m' s q1, O2 k m' s q1]; exact hR1.1 k m' s q1 q2
              · rw [e5, hv]; split <;> omega
              · rw [e5, hv]
                by_cases e2 : b' = b ∧ m' = m
                · obtain ⟨rfl, rfl⟩ := e2; split <;> omega
                · have := hR1.2.2.1 b' m' (by omega) hc'
                  split <;> omega
              · rw [e5, hv]
                split
                · exact hR1.2.2.2
                · exact Or.inr ⟨b, m, hc, rfl⟩
            have e104 : ∀ s, M2 104 0 s = M1 104 0 s := fun s => O2 _ _ _ (by omega)
            refine t191 hS hT hM2 hs hc x1 x2 x4 ⟨fun _ => ⟨hM.1, fun hlt => ⟨⟨by omega, by omega⟩, ?_⟩, fun hge => ?_⟩, fun q => absurd rfl q⟩
            · rw [hM2.2.1] at hlt
              have e1 : M2 104 0 (m_nx T a f n y b m) = g_V T m_I b (f + m) (n + g_lines T a b f m n) (g_ahead T a b f m n (m_x a y)) := by
                rw [e104, hR1.1 _ _ _ (by omega) (by omega)]
                exact HV b m hc hlt
              rw [e1, x5, eval, e104]
              refine ⟨⟨by unfold g_val; omega, by unfold g_val; omega⟩, ⟨ps.1.1, by omega⟩, t153 hS ⟨⟨ps.1.1, by omega⟩, fun M3 f3 => ⟨⟨by omega, by omega⟩, ?_⟩⟩⟩
              rw [show m + -1 = m - 1 by omega]
              exact ih2 (by omega) (by omega) _ _ M3 (upd M2 _ (fun _ _ _ _ => rfl) rfl M3 f3)
            · rw [hM2.2.1] at hge
              have qq := g_can_q hT hs.1 hc
              have hbR : b = T 8 0 := by omega
              have tR := g_tab_at hT (a := b) ⟨by omega, by omega⟩
              have nxs := nx.1.1
              have e1 : g_V T m_I b (f + m) (n + g_lines T a b f m n) (g_ahead T a b f m n (m_x a y)) = 5 * g_bN T (f + m) (n + g_lines T a b f m n) := g_V_end (by omega)
              have bn := (g_bN_s hT (f := f + m) (n := n + g_lines T a b f m n) ⟨nxs.2.1.1, by have := nxs.2.1; omega⟩ ⟨by have := nxs.2.2; omega, by have := nxs.2.2; omega⟩).1
              rw [x1]
              refine ⟨qq.1, t190 hS hT hM2 ⟨ps.1.1, by omega⟩ ?_⟩
              rw [x2, ps.2.1, ps.2.2.2.1]
              refine ⟨qq.2, t186 hS hT hM2 ⟨nxs.2.1.1, by have := nxs.2.1; omega⟩ ⟨by have := nxs.2.2; omega, by have := nxs.2.2; omega⟩ ?_⟩
              rw [x5, ← e1, eval, e104]
              refine ⟨⟨by omega, by omega⟩, ⟨by unfold g_val; omega, by unfold g_val; omega⟩, ⟨ps.1.1, by omega⟩, t153 hS ⟨⟨ps.1.1, by omega⟩, fun M3 f3 => ⟨⟨by omega, by omega⟩, ?_⟩⟩⟩
              rw [show m + -1 = m - 1 by omega]
              exact ih2 (by omega) (by omega) _ _ M3 (upd M2 _ (fun _ _ _ _ => rfl) rfl M3 f3)
          · rw [show m + -1 = m - 1 by omega]
            have e104 : ∀ s, M2 104 0 s = M1 104 0 s := fun s => O2 _ _ _ (by omega)
            refine ih2 (by omega) (by omega) _ _ M2 ⟨fun k m' s q1 q2 => by rw [O2 k m' s q1]; exact hR1.1 k m' s q1 q2, by rw [e104]; exact hR1.2.1, fun b' m' hd hc' => ?_, by rw [e104]; exact hR1.2.2.2⟩
            rw [e104]
            refine hR1.2.2.1 b' m' ?_ hc'
            by_cases e2 : b' = b ∧ m' = m
            · obtain ⟨rfl, rfl⟩ := e2; exact absurd hc'.2.2 nok
            · omega
      refine inner _ (by split <;> omega) (by split <;> omega) (by split <;> omega) _ _ M' ⟨hR.1, hR.2.1, fun b' m' hd hc => hR.2.2.1 b' m' ?_ hc, hR.2.2.2⟩
      rcases hd with hd | ⟨rfl, hd⟩
      · exact hd
      · exfalso
        have := hc.2.1
        split at hd <;> omega
  refine w193 hS (t189 hS ps.1.1 ?_)
  rw [ps.2.2.1, ps.2.1]
  refine ⟨ps.1.1, ⟨ps.1.1, by omega⟩, fun M1 f1 => ⟨⟨by omega, by omega⟩, ?_⟩⟩
  have e1 : M1 104 0 (m_st T a f n y) = m_I := by rw [f1, qU_s]
  exact outer _ _ _ M1 ⟨fun k m s _ q => by rw [f1]; unfold qU; rw [if_neg q], by rw [e1]; exact ⟨by decide, Int.le_refl _⟩, fun b m hd hc => by have := hc.1; omega, Or.inl e1⟩
