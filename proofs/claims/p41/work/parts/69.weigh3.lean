/-! ===== PageMaker.weigh ===== -/
abbrev g_I : Int := 268435456
/-- the page that is chosen: the first of the best ones -/
def g_best (T : pT) (I a f n x b m : Int) : Prop := g_can T a f n b m ∧ g_val T I a f n x b m = g_V T I a f n x ∧ ∀ b' m', g_can T a f n b' m' → (b < b' ∨ (b' = b ∧ m < m')) → g_V T I a f n x < g_val T I a f n x b' m'
def fr72 (p : Int) (M M' : qM) : Prop := ∀ (k : Nat) (m s : Int), ¬ (k = 7 ∧ m = 0 ∧ 5 ≤ s ∧ s ≤ 9) → ¬ ((k = 41 ∨ k = 42) ∧ m = 0 ∧ p * 16 ≤ s ∧ s < p * 16 + 16) → M' k m s = M k m s
def g_R72 (T : pT) (M : qM) (p a f n : Int) (done : Int → Int → Prop) (M' : qM) : Prop :=
  fr72 p M M' ∧ (∀ s, 0 ≤ M' 41 0 s ∧ M' 41 0 s ≤ 300000000) ∧ ∀ x, 0 ≤ x → x ≤ 15 → q_bs (M 40 0 p) x → M' 41 0 (p * 16 + x) ≤ g_I ∧ (∀ b m, done b m → g_can T a f n b m → M' 41 0 (p * 16 + x) ≤ g_val T g_I a f n x b m) ∧ (M' 41 0 (p * 16 + x) = g_I ∨ ∃ b m, done b m ∧ g_can T a f n b m ∧ M' 41 0 (p * 16 + x) = g_val T g_I a f n x b m ∧ M' 42 0 (p * 16 + x) = b * 4 + m ∧ ∀ b' m', g_can T a f n b' m' → (b < b' ∨ (b' = b ∧ m < m')) → M' 41 0 (p * 16 + x) < g_val T g_I a f n x b' m')
theorem t72 {d : Nat} {h : qH} (hS : qSe h) {T : pT} {r p a f n : Int} {M : qM} {F : qM → Prop} (hT : g_tab T) (hM : g_cM T r M) (hs : g_at T a f n) (ha : a < T 8 0) (hp : p = g_place T a f n)
    (hb : ∀ q, 0 ≤ M 40 0 q ∧ M 40 0 q < 65536) (hl : ∀ s, 0 ≤ M 41 0 s ∧ M 41 0 s ≤ 300000000)
    (HV : ∀ b m x, g_can T a f n b m → 0 ≤ x → x ≤ 15 → q_bs (M 40 0 p) x → M 41 0 (g_nx T a f n b m * 16 + g_ahead T a b f m n x) = g_V T g_I b (f + m) (n + g_lines T a b f m n) (g_ahead T a b f m n x))
    (H : ∀ M', fr72 p M M' → (∀ s, 0 ≤ M' 41 0 s ∧ M' 41 0 s ≤ 300000000) → (∀ x, 0 ≤ x → x ≤ 15 → q_bs (M 40 0 p) x → M' 41 0 (p * 16 + x) = g_V T g_I a f n x ∧ (g_V T g_I a f n x < g_I → ∃ b m, g_best T g_I a f n x b m ∧ M' 42 0 (p * 16 + x) = b * 4 + m)) → F M') : e72 (d + 3) h p M F := by
  have h70 := hT.1
  have hD := hT.2.1
  have hF := hT.2.2.1
  have pp := g_place_p hT hs
  rw [← hp] at pp
  have ta := g_tab_at hT hs.1
  have hs2 := hs.2.1
  -- when all is done
  have fin : ∀ (done : Int → Int → Prop) M', g_R72 T M p a f n done M' → (∀ b m, g_can T a f n b m → done b m) → F M' := by
    intro done M' hR hd
    refine H M' hR.1 hR.2.1 (fun x x0 x1 hx => ?_)
    obtain ⟨g1, g2, g3⟩ := hR.2.2 x x0 x1 hx
    obtain ⟨v1, v2, v3⟩ := g_V_p (T := T) (I := g_I) (a := a) (f := f) (n := n) (x := x) ha
    have e : M' 41 0 (p * 16 + x) = g_V T g_I a f n x := by
      refine Int.le_antisymm ?_ ?_
      · rcases v3 with v3 | ⟨b, m, hc, v3⟩
        · rw [v3]; exact g1
        · rw [v3]; exact g2 b m (hd b m hc) hc
      · rcases g3 with g3 | ⟨b, m, _, hc, g3, _⟩
        · rw [g3]; exact v1
        · rw [g3]; exact v2 b m hc
    refine ⟨e, fun hlt => ?_⟩
    rcases g3 with g3 | ⟨b, m, _, hc, g3, g4, g5⟩
    · rw [e] at g3; omega
    · exact ⟨b, m, ⟨hc, by rw [← g3]; exact e, fun b' m' hc' hb' => by rw [← e]; exact g5 b' m' hc' hb'⟩, g4⟩
  have keep : ∀ (D : Int → Int → Prop) M', g_R72 T M p a f n D M' → g_cM T r M' := fun D M' hR => g_cM_fr hM (fun k m s q => hR.1 k m s (by omega) (by omega))
  -- a row's floats, then the rows ahead
  have outer : ∀ (B : Int), a ≤ B → B ≤ T 8 0 → ∀ (u5 u7 u8 : qV) (M' : qM), g_R72 T M p a f n (fun b _ => B < b) M' → b72_75 d h F p a f n u5 B u7 u8 M' := by
    intro B hB
    refine q_dnto (P := fun B => B ≤ T 8 0 → ∀ (u5 u7 u8 : qV) (M' : qM), g_R72 T M p a f n (fun b _ => B < b) M' → b72_75 d h F p a f n u5 B u7 u8 M') (a := a) (b := B) hB ?_ ?_
    · intro _ u5 u7 u8 M' hR
      exact w72_75 hS ⟨fun _ => fin _ M' hR (fun b m hc => hc.1.1), fun q => absurd (Int.le_refl _) q⟩
    · intro b b0 b1 ih hbR u5 u7 u8 M' hR
      have hM' := keep _ M' hR
      have tb := g_tab_at hT (a := b) ⟨by have := hs.1; omega, hbR⟩
      have dm := hT.2.2.2.2.2.2.1 a b hs.1.1 (by omega) hbR
      refine w72_75 hS ⟨fun q => by omega, fun _ => t59 hS hT hM' ⟨by have := hs.1; omega, hbR⟩ ⟨hs2.1, by omega⟩ ?_⟩
      have inner : ∀ (mm : Int), -1 ≤ mm → mm ≤ 2 → f + mm ≤ T 1 b ∨ mm = -1 → ∀ (u5 u8 : qV) (M1 : qM), g_R72 T M p a f n (fun b' m' => b < b' ∨ (b' = b ∧ mm < m')) M1 → b72_90 d h F p a f n u5 b mm u8 M1 := by
        intro mm hmm
        refine q_dnto (P := fun mm => mm ≤ 2 → f + mm ≤ T 1 b ∨ mm = -1 → ∀ (u5 u8 : qV) (M1 : qM), g_R72 T M p a f n (fun b' m' => b < b' ∨ (b' = b ∧ mm < m')) M1 → b72_90 d h F p a f n u5 b mm u8 M1) (a := -1) (b := mm) hmm ?_ ?_
        · intro _ _ u5 u8 M1 hR1
          refine w72_90 hS ⟨fun _ => ⟨⟨by omega, by omega⟩, ?_⟩, fun q => absurd (by decide) q⟩
          rw [show b + -1 = b - 1 by omega]
          refine ih (by omega) _ _ _ M1 ⟨hR1.1, hR1.2.1, fun x x0 x1 hx => ?_⟩
          obtain ⟨g1, g2, g3⟩ := hR1.2.2 x x0 x1 hx
          refine ⟨g1, fun b' m' hd hc => g2 b' m' ?_ hc, ?_⟩
          · have := hc.2.1; omega
          · rcases g3 with g3 | ⟨b', m', hd, hc, g4⟩
            · exact Or.inl g3
            · exact Or.inr ⟨b', m', by omega, hc, g4⟩
        · intro m m0 m1 ih2 hm2 hfm u5 u8 M1 hR1
          have hM1 := keep _ M1 hR1
          have hfm' : f + m ≤ T 1 b := by omega
          refine w72_90 hS ⟨fun q => by omega, fun _ => t58 hS hT hM1 hs ⟨b0, hbR⟩ ⟨by omega, hfm'⟩ (fun ok M2 O2 x5 x6 x7 x8 x9 => ⟨fun q => absurd q (by decide), fun _ => ?_⟩) (fun nok M2 O2 => ⟨fun _ => ⟨⟨by omega, by omega⟩, ?_⟩, fun q => absurd rfl q⟩)⟩
          · have hc : g_can T a f n b m := ⟨⟨b0, hbR⟩, ⟨by omega, hm2, hfm'⟩, ok⟩
            have nums := g_nums hT hs ⟨b0, hbR⟩ ⟨by omega, hfm'⟩
            have nn := nums.2.2.2.2.2 ok
            have nxt := g_next hT hs ⟨b0, hbR⟩ ⟨by omega, hfm'⟩ ok
            have nxp := g_place_p hT nxt
            have hnx : g_nx T a f n b m = g_place T b (f + m) (n + g_lines T a b f m n) := rfl
            rw [← hnx] at nxp
            have hpn : p < g_nx T a f n b m := by omega
            have hM2 : g_cM T r M2 := g_cM_fr hM1 (fun k m s q => O2 k m s (by omega))
            have qq := g_can_q hT hs hc
            have e40 : M2 40 0 p = M 40 0 p := by rw [O2 _ _ _ (by omega), hR1.1 _ _ _ (by omega) (by omega)]
            have e41 : ∀ s, M2 41 0 s = M1 41 0 s := fun s => O2 _ _ _ (by omega)
            have e42 : ∀ s, M2 42 0 s = M1 42 0 s := fun s => O2 _ _ _ (by omega)
            rw [x5]
            refine ⟨qq.1, qq.2, t62 hS hT hM2 nxt ?_⟩
            rw [← hnx]
            refine ⟨⟨by omega, by omega⟩, ⟨by omega, by omega⟩, t73 hS (T := T) (a := a) (b := b) (f := f) (m := m) (n := n) x7 x8 x9 nn.2.2.2.1 nn.2.2.2.2.2 pp.1 nxp.1 hpn (by rw [e40]; exact hb p) (fun s => by rw [e41]; exact hR1.2.1 s) (fun M3 O3 c3 => ⟨⟨by omega, by omega⟩, ?_⟩)⟩
            rw [show m + -1 = m - 1 by omega]
            have farb : ∀ x, 0 ≤ x → x ≤ 15 → 0 ≤ g_far T a b f m n x := fun x x0 x1 => by
              unfold g_far
              split
              · omega
              · split
                · omega
                · split
                  · split <;> omega
                  · omega
            -- what a way costs by this page
            have val : ∀ x, 0 ≤ x → x ≤ 15 → q_bs (M 40 0 p) x → g_cost T a b f m n + g_far T a b f m n x + M2 41 0 (g_nx T a f n b m * 16 + g_ahead T a b f m n x) = g_val T g_I a f n x b m := by
              intro x x0 x1 hx
              have ha0 : 0 ≤ g_ahead T a b f m n x := by unfold g_ahead; split <;> omega
              rw [e41, hR1.1 _ _ _ (by omega) (by omega), HV b m x hc x0 x1 hx]
              rfl
            refine ih2 (by omega) (by omega) _ _ M3 ⟨fun k mm' s q1 q2 => ?_, fun s => ?_, fun x x0 x1 hx => ?_⟩
            · rw [O3 k mm' s q2, O2 k mm' s q1]; exact hR1.1 k mm' s q1 q2
            · by_cases hin : p * 16 ≤ s ∧ s < p * 16 + 16
              · have h3 := c3 (s - p * 16) (by omega) (by omega)
                rw [show p * 16 + (s - p * 16) = s by omega, e41, e41, e40] at h3
                have hold := hR1.2.1 s
                have hnew := hR1.2.1 (g_nx T a f n b m * 16 + g_ahead T a b f m n (s - p * 16))
                have fb := farb (s - p * 16) (by omega) (by omega)
                rcases h3 with ⟨_, k2, k3, _⟩ | ⟨_, k3, _⟩ <;> omega
              · rw [O3 _ _ _ (by omega), e41]; exact hR1.2.1 s
            · obtain ⟨g1, g2, g3⟩ := hR1.2.2 x x0 x1 hx
              have vx := val x x0 x1 hx
              have h3 := c3 x x0 x1
              rw [vx, e41, e42, e40] at h3
              rcases h3 with ⟨_, k2, k3, k4⟩ | ⟨k1, k3, k4⟩
              · rw [k3]
                refine ⟨by omega, fun b' m' hd hc' => ?_, Or.inr ⟨b, m, by omega, hc, rfl, k4, fun b' m' hc' hd => ?_⟩⟩
                · by_cases e : b' = b ∧ m' = m
                  · obtain ⟨rfl, rfl⟩ := e; exact Int.le_refl _
                  · have := g2 b' m' (by omega) hc'; omega
                · have := g2 b' m' (by omega) hc'; omega
              · rw [k3]
                have k5 : M1 41 0 (p * 16 + x) ≤ g_val T g_I a f n x b m := Int.not_lt.mp (fun z => k1 ⟨hx, z⟩)
                refine ⟨g1, fun b' m' hd hc' => ?_, ?_⟩
                · by_cases e : b' = b ∧ m' = m
                  · obtain ⟨rfl, rfl⟩ := e; exact k5
                  · exact g2 b' m' (by omega) hc'
                · rcases g3 with g3 | ⟨b', m', hd, hc', g4, g5, g6⟩
                  · exact Or.inl g3
                  · exact Or.inr ⟨b', m', by omega, hc', g4, by rw [k4]; exact g5, g6⟩
          · rw [show m + -1 = m - 1 by omega]
            have e41 : ∀ s, M2 41 0 s = M1 41 0 s := fun s => O2 _ _ _ (by omega)
            have e42 : ∀ s, M2 42 0 s = M1 42 0 s := fun s => O2 _ _ _ (by omega)
            refine ih2 (by omega) (by omega) _ _ M2 ⟨fun k mm' s q1 q2 => by rw [O2 k mm' s q1]; exact hR1.1 k mm' s q1 q2, fun s => by rw [e41]; exact hR1.2.1 s, fun x x0 x1 hx => ?_⟩
            obtain ⟨g1, g2, g3⟩ := hR1.2.2 x x0 x1 hx
            rw [e41, e42]
            refine ⟨g1, fun b' m' hd hc' => ?_, ?_⟩
            · by_cases e : b' = b ∧ m' = m
              · obtain ⟨rfl, rfl⟩ := e; exact absurd hc'.2.2 nok
              · exact g2 b' m' (by omega) hc'
            · rcases g3 with g3 | ⟨b', m', hd, hc', g4⟩
              · exact Or.inl g3
              · exact Or.inr ⟨b', m', by omega, hc', g4⟩
      refine inner _ (by split <;> omega) (by split <;> omega) (by split <;> omega) _ _ M' ⟨hR.1, hR.2.1, fun x x0 x1 hx => ?_⟩
      obtain ⟨g1, g2, g3⟩ := hR.2.2 x x0 x1 hx
      refine ⟨g1, fun b' m' hd hc => g2 b' m' ?_ hc, ?_⟩
      · rcases hd with hd | ⟨rfl, hd⟩
        · exact hd
        · exfalso
          have := hc.2.1
          split at hd <;> omega
      · rcases g3 with g3 | ⟨b', m', hd, hc, g4⟩
        · exact Or.inl g3
        · exact Or.inr ⟨b', m', Or.inl hd, hc, g4⟩
  refine w72 hS ⟨pp.1.1, t63 hS hT hM ⟨pp.1.1, by omega⟩ (t64 hS hT hM ⟨pp.1.1, by omega⟩ ?_)⟩
  rw [pp.2.1, pp.2.2.1, pp.2.2.2]
  refine ⟨⟨by omega, by omega⟩, ⟨by omega, by omega⟩, ⟨by omega, by omega⟩, t268 ⟨by omega, by omega, by omega⟩ (fun M1 O1 v1 => ?_)⟩
  have hM1 : g_cM T r M1 := g_cM_fr hM (fun k m s q => O1 k m s (by omega))
  obtain ⟨m3, m4, r0, c1, -⟩ := id hM1
  have q1 : M1 7 0 3 - 1 = r := by omega
  have R1 : ∀ B, a ≤ B → (B < T 8 0 → B = a + T 8 1) → g_R72 T M p a f n (fun b _ => B < b) M1 := by
    intro B hB hB2
    refine ⟨fun k m s _ q2 => O1 k m s (by omega), fun s => ?_, fun x x0 x1 _ => ?_⟩
    · by_cases hin : p * 16 ≤ s ∧ s < (p + 1) * 16
      · rw [v1 s hin.1 hin.2]; omega
      · rw [O1 _ _ _ (by omega)]; exact hl s
    · have e : M1 41 0 (p * 16 + x) = g_I := v1 _ (by omega) (by omega)
      refine ⟨by rw [e]; exact Int.le_refl _, fun b m hd hc => ?_, Or.inl e⟩
      exfalso
      have := g_can_D hT hs hc
      have := hc.1
      omega
  rw [m4]
  refine ⟨⟨by have := hs.1; omega, by omega⟩, fun q => by omega, fun _ => ⟨fun k => ⟨⟨by have := hs.1; omega, by omega⟩, ?_⟩, fun k => ⟨fun q => by omega, fun _ => ?_, fun q => by omega⟩⟩, fun q => by omega⟩
  · rw [q1, c1] at k
    exact outer _ (by omega) (by omega) _ _ _ M1 (R1 _ (by omega) (fun _ => rfl))
  · rw [q1, c1] at k ⊢
    exact outer _ (by omega) (by omega) _ _ _ M1 (R1 _ (by omega) (fun q => by omega))
