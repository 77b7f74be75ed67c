/-! ===== FacingleafModel.addsBest, manyBare that adds ===== -/
/-- the two bounds agree -/
theorem g_V_I {T : pT} (hT : g_tab T) : ∀ (t : Nat) (a f n x : Int), T 8 0 - a ≤ t → g_at T a f n → (0 ≤ x ∧ x ≤ 15) → (g_V T g_I a f n x = g_I ∧ g_V T m_I a f n x = m_I) ∨ (g_V T g_I a f n x = g_V T m_I a f n x ∧ g_V T g_I a f n x ≤ 500 * (T 8 0 - a) + 100)
  | t, a, f, n, x, ht, hs, hx => by
    have tR := g_tab_at hT hs.1
    by_cases ha : T 8 0 ≤ a
    · rw [g_V_end ha, g_V_end ha]
      have := (g_bN_s hT (f := f) (n := n) ⟨hs.2.1.1, by have := hs.2.1; omega⟩ ⟨by have := hs.2.2; omega, by have := hs.2.2; omega⟩).1
      have hs1 := hs.1
      right; omega
    · match t, ht with
      | 0, ht => omega
      | t + 1, ht =>
      obtain ⟨u1, u2, u3⟩ := g_V_p (T := T) (I := g_I) (a := a) (f := f) (n := n) (x := x) (by omega)
      obtain ⟨v1, v2, v3⟩ := g_V_p (T := T) (I := m_I) (a := a) (f := f) (n := n) (x := x) (by omega)
      -- of each way
      have way : ∀ b m, g_can T a f n b m → (g_I ≤ g_val T g_I a f n x b m ∧ m_I ≤ g_val T m_I a f n x b m) ∨ (g_val T g_I a f n x b m = g_val T m_I a f n x b m ∧ g_val T g_I a f n x b m ≤ 500 * (T 8 0 - a) + 100) := by
        intro b m hc
        have nums := g_nums hT hs hc.1 ⟨hc.2.1.1, hc.2.1.2.2⟩
        have nn := nums.2.2.2.2.2 hc.2.2
        have fb := g_far_bd (T := T) (a := a) (b := b) (f := f) (m := m) (n := n) nn.2.2.2.1 hx
        have := g_V_I hT t b (f + m) (n + g_lines T a b f m n) (g_ahead T a b f m n x) (by have := hc.1; omega) (g_next hT hs hc.1 ⟨hc.2.1.1, hc.2.1.2.2⟩ hc.2.2) (by unfold g_ahead; split <;> omega)
        have hcb := hc.1
        have e1 : g_I = 268435456 := rfl
        have e2 : m_I = 536870912 := rfl
        unfold g_val
        omega
      have b70 := hT.1
      by_cases hlt : g_V T g_I a f n x < g_I
      · right
        rcases u3 with u3 | ⟨b, m, hc, u3⟩
        · omega
        · have w := way b m hc
          have w2 := v2 b m hc
          rcases w with w | w
          · omega
          · have e1 : g_I = 268435456 := rfl
            have e2 : m_I = 536870912 := rfl
            have : g_V T m_I a f n x < m_I := by omega
            rcases v3 with v3 | ⟨b', m', hc', v3⟩
            · omega
            · have w' := way b' m' hc'
              have w3 := u2 b' m' hc'
              have hs1 := hs.1
              omega
      · left
        refine ⟨by omega, ?_⟩
        rcases v3 with v3 | ⟨b', m', hc', v3⟩
        · exact v3
        · have w' := way b' m' hc'
          have w3 := u2 b' m' hc'
          have e1 : g_I = 268435456 := rfl
          have e2 : m_I = 536870912 := rfl
          have hs1 := hs.1
          omega
theorem g_best_I {T : pT} (hT : g_tab T) {a f n x b m : Int} (hs : g_at T a f n) (ha : a < T 8 0) (hx : 0 ≤ x ∧ x ≤ 15) (hV : g_V T g_I a f n x < g_I) (h : g_best T m_I a f n x b m) : g_best T g_I a f n x b m := by
  have e1 : g_I = 268435456 := rfl
  have e2 : m_I = 536870912 := rfl
  have h70 := hT.1
  have hs1 := hs.1
  have way : ∀ b m, g_can T a f n b m → (g_I ≤ g_val T g_I a f n x b m ∧ m_I ≤ g_val T m_I a f n x b m) ∨ (g_val T g_I a f n x b m = g_val T m_I a f n x b m) := by
    intro b m hc
    have nums := g_nums hT hs hc.1 ⟨hc.2.1.1, hc.2.1.2.2⟩
    have nn := nums.2.2.2.2.2 hc.2.2
    have fb := g_far_bd (T := T) (a := a) (b := b) (f := f) (m := m) (n := n) nn.2.2.2.1 hx
    have hcb := hc.1
    have := g_V_I hT (T 8 0 - b).toNat b (f + m) (n + g_lines T a b f m n) (g_ahead T a b f m n x) (by omega) (g_next hT hs hc.1 ⟨hc.2.1.1, hc.2.1.2.2⟩ hc.2.2) (by unfold g_ahead; split <;> omega)
    unfold g_val
    omega
  have hVV := g_V_I hT (T 8 0 - a).toNat a f n x (by omega) hs hx
  obtain ⟨h1, h2, h3⟩ := h
  refine ⟨h1, ?_, fun b' m' hc' hb' => ?_⟩
  · have := way b m h1; omega
  · have w := way b' m' hc'
    have := h3 b' m' hc' hb'
    omega
/-- what the model knows from state a on -/
def m_know (T : pT) (a : Int) (M : qM) : Prop := ∀ b f' n' y', m_ok T b f' n' y' → a ≤ b → b < T 8 0 → M 103 0 (m_st T b f' n' y') = 1 → M 104 0 (m_st T b f' n' y') = g_V T m_I b f' n' (m_x b y') ∧ ∀ b' m', g_can T b f' n' b' m' → b' < T 8 0 → M 103 0 (m_nx T b f' n' y' b' m') = 1
theorem t199 {d : Nat} {h : qH} (hS : qSe h) {T P : pT} {c cnt p0 : Int} {M : qM} {F : Int → qM → Prop} (hT : g_tab T) (h67 : T 8 0 ≤ 67) (hM : g_mT T c M) (hP : g_mP P cnt p0 c M) (hcnt : 0 ≤ cnt) (hp0 : 0 ≤ p0 ∧ p0 + cnt < 390) (hs : m_ok T (g_bf P 0 cnt) (g_bf P 1 cnt) (g_bf P 2 cnt) (m_y P cnt)) (ha : g_bf P 0 cnt < T 8 0) (hmono : ∀ k, 0 ≤ k → k < cnt → P 0 k ≤ g_bf P 0 cnt)
    (hK : m_know T (g_bf P 0 cnt) M) (hr : M 103 0 (m_st T (g_bf P 0 cnt) (g_bf P 1 cnt) (g_bf P 2 cnt) (m_y P cnt)) = 1) (hV : g_V T m_I (g_bf P 0 cnt) (g_bf P 1 cnt) (g_bf P 2 cnt) (m_x (g_bf P 0 cnt) (m_y P cnt)) < m_I) (hco : 0 ≤ M 116 0 c ∧ M 116 0 c ≤ 1000000)
    (H : ∀ b m, g_best T m_I (g_bf P 0 cnt) (g_bf P 1 cnt) (g_bf P 2 cnt) (m_x (g_bf P 0 cnt) (m_y P cnt)) b m → ∀ M', fr195 c (g_bf P 0 cnt) (p0 + cnt) M M' → g_mP (g_add T P cnt b m) (cnt + 1) p0 c M' → M' 116 0 c = M 116 0 c + (g_cost T (g_bf P 0 cnt) b (g_bf P 1 cnt) m (g_bf P 2 cnt) + g_far T (g_bf P 0 cnt) b (g_bf P 1 cnt) m (g_bf P 2 cnt) (m_x (g_bf P 0 cnt) (m_y P cnt))) → F (m_nx T (g_bf P 0 cnt) (g_bf P 1 cnt) (g_bf P 2 cnt) (m_y P cnt) b m) M') : e199 (d + 4) h c (m_st T (g_bf P 0 cnt) (g_bf P 1 cnt) (g_bf P 2 cnt) (m_y P cnt)) M F := by
  generalize hA : g_bf P 0 cnt = a at *
  generalize hFf : g_bf P 1 cnt = f at *
  generalize hNn : g_bf P 2 cnt = n at *
  generalize hY : m_y P cnt = y at *
  have ps := m_st_p hT hs
  have hs1 := hs.1.1
  have hs2 := hs.1.2.1
  have h70 := hT.1
  have hD := hT.2.1
  have hF := hT.2.2.1
  have hN := hT.2.2.2.1
  have ta := g_tab_at hT hs1
  have hx := m_xb (a := a) hs.2.1
  have kV := (hK a f n y hs (Int.le_refl _) ha hr).1
  have keep : ∀ M', fr185 M M' → g_mT T c M' := fun M' hR => g_mT_fr hM (fun k m s q => hR k m s (by omega))
  -- none of those that were looked at is the best
  have outer : ∀ (B : Int), a ≤ B → B ≤ T 8 0 → ∀ (u6 u7 : qV) (M' : qM), fr185 M M' → (∀ b m, B < b → g_can T a f n b m → g_V T m_I a f n (m_x a y) < g_val T m_I a f n (m_x a y) b m) → b199_29 d h F c (m_st T a f n y) a f B u6 u7 M' := by
    intro B hB
    refine q_dnto (P := fun B => B ≤ T 8 0 → ∀ (u6 u7 : qV) (M' : qM), fr185 M M' → (∀ b m, B < b → g_can T a f n b m → g_V T m_I a f n (m_x a y) < g_val T m_I a f n (m_x a y) b m) → b199_29 d h F c (m_st T a f n y) a f B u6 u7 M') (a := a) (b := B) hB ?_ ?_
    · intro _ u6 u7 M' _ hno
      exfalso
      rcases (g_V_p (T := T) (I := m_I) (a := a) (f := f) (n := n) (x := m_x a y) ha).2.2 with v | ⟨b, m, hc, v⟩
      · omega
      · have := hno b m hc.1.1 hc; omega
    · intro b b0 b1 ih hbR u6 u7 M' O' hno
      have hM' := keep M' O'
      have tb := g_tab_at hT (a := b) ⟨by omega, hbR⟩
      have dm := hT.2.2.2.2.2.2.1 a b hs1.1 (by omega) hbR
      refine w199_29 hS ⟨fun q => by omega, fun _ => t192 hS hT hM' ⟨by omega, hbR⟩ ⟨hs2.1, by omega⟩ ?_⟩
      have inner : ∀ (mm : Int), -1 ≤ mm → mm ≤ 2 → f + mm ≤ T 1 b ∨ mm = -1 → ∀ (u7 : qV) (M1 : qM), fr185 M M1 → (∀ b' m', (b < b' ∨ (b' = b ∧ mm < m')) → g_can T a f n b' m' → g_V T m_I a f n (m_x a y) < g_val T m_I a f n (m_x a y) b' m') → b199_45 d h F c (m_st T a f n y) a f b mm u7 M1 := by
        intro mm hmm
        refine q_dnto (P := fun mm => mm ≤ 2 → f + mm ≤ T 1 b ∨ mm = -1 → ∀ (u7 : qV) (M1 : qM), fr185 M M1 → (∀ b' m', (b < b' ∨ (b' = b ∧ mm < m')) → g_can T a f n b' m' → g_V T m_I a f n (m_x a y) < g_val T m_I a f n (m_x a y) b' m') → b199_45 d h F c (m_st T a f n y) a f b mm u7 M1) (a := -1) (b := mm) hmm ?_ ?_
        · intro _ _ u7 M1 O1 hno1
          refine w199_45 hS ⟨fun _ => ⟨⟨by omega, by omega⟩, ?_⟩, fun q => absurd (by decide) q⟩
          rw [show b + -1 = b - 1 by omega]
          exact ih (by omega) _ _ M1 O1 (fun b' m' hb hc => hno1 b' m' (by have := hc.2.1; omega) hc)
        · intro m m0 m1 ih2 hm2 hfm u7 M1 O1 hno1
          have hM1 := keep M1 O1
          have hfm' : f + m ≤ T 1 b := by omega
          refine w199_45 hS ⟨fun q => by omega, fun _ => ⟨⟨by omega, by omega⟩, t198 hS hT hM1 hs ⟨b0, hbR⟩ ⟨by omega, hfm'⟩ (fun ok M2 O2 x1 x2 x3 x4 x5 => ⟨fun q => absurd q (by decide), fun _ => ?_⟩) (fun nok M2 O2 => ⟨fun _ => ⟨⟨by omega, by omega⟩, ?_⟩, fun q => absurd rfl q⟩)⟩⟩
          · have hc : g_can T a f n b m := ⟨⟨b0, hbR⟩, ⟨by omega, hm2, hfm'⟩, ok⟩
            have O2' : fr185 M M2 := fun k m s q => by rw [O2 k m s q, O1 k m s q]
            have hM2 := keep M2 O2'
            have nx := m_next hT hs hc
            have nxp := m_st_p hT nx.1
            have enx : m_nx T a f n y b m = m_st T b (f + m) (n + g_lines T a b f m n) (g_ahead T a b f m n (m_x a y)) := rfl
            rw [← enx] at nxp
            have nums := g_nums hT hs.1 hc.1 ⟨hc.2.1.1, hc.2.1.2.2⟩
            have nn := nums.2.2.2.2.2 ok
            have fb := g_far_bd (T := T) (a := a) (b := b) (f := f) (m := m) (n := n) nn.2.2.2.1 hx
            have hah := nx.1.2.1
            have vb := g_V_bd hT (I := m_I) ⟨by decide, by decide⟩ nx.1.1 (x := g_ahead T a b f m n (m_x a y)) ⟨by omega, by omega⟩
            have eval : g_cost T a b f m n + g_far T a b f m n (m_x a y) + g_V T m_I b (f + m) (n + g_lines T a b f m n) (g_ahead T a b f m n (m_x a y)) = g_val T m_I a f n (m_x a y) b m := rfl
            have e104 : ∀ s, M2 104 0 s = M 104 0 s := fun s => O2' _ _ _ (by omega)
            have vle := (g_V_p (T := T) (I := m_I) (a := a) (f := f) (n := n) (x := m_x a y) ha).2.1 b m hc
            -- it is the best one
            have yes : g_val T m_I a f n (m_x a y) b m = g_V T m_I a f n (m_x a y) → e197 (d + 3) h c (m_st T a f n y) (b - a) M2 (fun v135 M136 => F v135 M136) := by
              intro ev
              have tt := t197 (d := d) hS (P := P) (cnt := cnt) (p0 := p0) (m := m) (F := fun v135 M136 => F v135 M136) hT hM2 (b := b) ⟨by rw [O2' _ _ _ (by omega)]; exact hP.1, fun k k0 k1 => by
                have := hP.2 k k0 k1
                rw [O2' _ _ _ (by omega), O2' _ _ _ (by omega), O2' _ _ _ (by omega), O2' _ _ _ (by omega), O2' _ _ _ (by omega), O2' _ _ _ (by omega), O2' _ _ _ (by omega), O2' _ _ _ (by omega), O2' _ _ _ (by omega)]
                exact ⟨this.1, fun r r0 r1 => by rw [O2' _ _ _ (by omega)]; exact this.2 r r0 r1⟩⟩ hcnt hp0 (by rw [hA, hFf, hNn, hY]; exact hs) (by rw [hA]; exact hmono) (by rw [hA, hFf, hNn]; exact hc) x1 (by rw [hA, hFf, hNn]; exact x2) (by rw [hA, hFf, hNn]; exact x3) (by rw [hA, hFf, hNn]; exact x4) (by rw [x5]; omega) (by rw [O2' _ _ _ (by omega)]; exact hco)
              rw [hA, hFf, hNn, hY] at tt
              refine tt (fun M3 O3 _ hP3 c3 => ?_)
              refine H b m ⟨hc, ev, fun b' m' hc' hb' => hno1 b' m' hb' hc'⟩ M3 (fun k m s q => by rw [O3 k m s q, O2' k m s (by omega)]) hP3 ?_
              rw [c3, O2' _ _ _ (by omega), x5]
            refine ⟨hM.1, fun hlt => ?_, fun hge => ?_⟩
            · rw [hM2.2.1] at hlt
              have rn := (hK a f n y hs (Int.le_refl _) ha hr).2 b m hc hlt
              have vn := (hK b _ _ _ nx.1 (by omega) hlt rn).1
              rw [nx.2, ← enx] at vn
              refine t191 hS hT hM2 hs hc x1 x2 x4 ⟨⟨nxp.1.1, by omega⟩, ?_⟩
              rw [e104, e104, vn, x5, eval, kV]
              refine ⟨⟨by unfold g_val; omega, by unfold g_val; omega⟩, ⟨ps.1.1, by omega⟩, fun k => ⟨⟨by omega, by omega⟩, yes k⟩, fun k => ⟨⟨by omega, by omega⟩, ?_⟩⟩
              rw [show m + -1 = m - 1 by omega]
              refine ih2 (by omega) (by omega) _ M2 O2' (fun b' m' hb hc' => ?_)
              by_cases e2 : b' = b ∧ m' = m
              · obtain ⟨rfl, rfl⟩ := e2; omega
              · exact hno1 b' m' (by omega) hc'
            · rw [hM2.2.1] at hge
              have qq := g_can_q hT hs.1 hc
              have hbR2 : b = T 8 0 := by omega
              have nxs := nx.1.1
              have e1 : g_V T m_I b (f + m) (n + g_lines T a b f m n) (g_ahead T a b f m n (m_x a y)) = 5 * g_bN T (f + m) (n + g_lines T a b f m n) := g_V_end (by omega)
              have bn := (g_bN_s hT (f := f + m) (n := n + g_lines T a b f m n) ⟨nxs.2.1.1, by have := nxs.2.1; omega⟩ ⟨by have := nxs.2.2; omega, by have := nxs.2.2; omega⟩).1
              refine ⟨qq.1, t190 hS hT hM2 ⟨ps.1.1, by omega⟩ ?_⟩
              rw [x2, ps.2.1, ps.2.2.2.1]
              refine ⟨qq.2, t186 hS hT hM2 ⟨nxs.2.1.1, by have := nxs.2.1; omega⟩ ⟨by have := nxs.2.2; omega, by have := nxs.2.2; omega⟩ ?_⟩
              rw [x5, ← e1, eval, e104, kV]
              refine ⟨⟨by omega, by omega⟩, ⟨by unfold g_val; omega, by unfold g_val; omega⟩, ⟨ps.1.1, by omega⟩, fun k => ⟨⟨by omega, by omega⟩, yes k⟩, fun k => ⟨⟨by omega, by omega⟩, ?_⟩⟩
              rw [show m + -1 = m - 1 by omega]
              refine ih2 (by omega) (by omega) _ M2 O2' (fun b' m' hb hc' => ?_)
              by_cases e2 : b' = b ∧ m' = m
              · obtain ⟨rfl, rfl⟩ := e2; omega
              · exact hno1 b' m' (by omega) hc'
          · rw [show m + -1 = m - 1 by omega]
            refine ih2 (by omega) (by omega) _ M2 (fun k m s q => by rw [O2 k m s q, O1 k m s q]) (fun b' m' hb hc' => ?_)
            by_cases e2 : b' = b ∧ m' = m
            · obtain ⟨rfl, rfl⟩ := e2; exact absurd hc'.2.2 nok
            · exact hno1 b' m' (by omega) hc'
      refine inner _ (by split <;> omega) (by split <;> omega) (by split <;> omega) _ M' O' (fun b' m' hb hc => hno b' m' ?_ hc)
      rcases hb with hb | ⟨rfl, hb⟩
      · exact hb
      · exfalso
        have := hc.2.1
        split at hb <;> omega
  refine w199 hS ⟨ps.1.1, t189 hS ps.1.1 ?_⟩
  rw [ps.2.1, ps.2.2.1, hM.2.1, hM.2.2.1]
  refine ⟨hM.1, ⟨by omega, by omega⟩, t153 hS (outer _ (by split <;> omega) (by split <;> omega) _ _ M (fun _ _ _ _ => rfl) (fun b m hb hc => ?_))⟩
  exfalso
  have h1 := g_can_D hT hs.1 hc
  have h2 := hc.1
  split at hb <;> omega
