/-! ===== FacingleafModel.leastFrom ===== -/
theorem m_st_u {T : pT} (hT : g_tab T) {a f n y a' f' n' y' : Int} (h : m_ok T a f n y) (h' : m_ok T a' f' n' y') (e : m_st T a f n y = m_st T a' f' n' y') : a = a' ∧ f = f' ∧ n = n' ∧ y = y' := by
  have p := m_st_p hT h
  have p' := m_st_p hT h'
  rw [e] at p
  have ea : a = a' := by omega
  subst ea
  omega
/-- what is reached from a state, and the least costs there -/
def m_done (T : pT) (M : qM) : Prop := ∀ a f n y, m_ok T a f n y → a < T 8 0 → M 103 0 (m_st T a f n y) = 1 → M 104 0 (m_st T a f n y) = g_V T m_I a f n (m_x a y) ∧ ∀ b m, g_can T a f n b m → b < T 8 0 → M 103 0 (m_nx T a f n y b m) = 1
def fr194 (M M' : qM) : Prop := ∀ (k : Nat) (m s : Int), ¬ (k = 11 ∧ m = 0 ∧ 51 ≤ s ∧ s ≤ 57) → ¬ ((k = 103 ∨ k = 104) ∧ m = 0) → M' k m s = M k m s
theorem t194 {d : Nat} {h : qH} (hS : qSe h) {T : pT} {c a f n y : Int} {M : qM} {F : Int → qM → Prop} (hT : g_tab T) (h67 : T 8 0 ≤ 67) (hM : g_mT T c M) (hs : m_ok T a f n y) (ha : a < T 8 0)
    (H : ∀ M', fr194 M M' → M' 103 0 (m_st T a f n y) = 1 → (∀ b f' n' y', m_ok T b f' n' y' → a ≤ b → b < T 8 0 → M' 103 0 (m_st T b f' n' y') = 1 → M' 104 0 (m_st T b f' n' y') = g_V T m_I b f' n' (m_x b y') ∧ ∀ b' m', g_can T b f' n' b' m' → b' < T 8 0 → M' 103 0 (m_nx T b f' n' y' b' m') = 1) → F (g_V T m_I a f n (m_x a y)) M') : e194 (d + 5) h c (m_st T a f n y) M F := by
  have h70 := hT.1
  have ps := m_st_p hT hs
  have hs1 := hs.1.1
  refine w194 hS ⟨ps.1.1, ?_⟩
  rw [ps.2.1]
  refine ⟨⟨by omega, by omega⟩, ?_⟩
  have keep : ∀ M', fr194 M M' → g_mT T c M' := fun M' hR => g_mT_fr hM (fun k m s q => hR k m s (by omega) (by omega))
  let Val : qM → Prop := fun M' => ∀ s, a * 300 ≤ s → s < (T 8 0 + 1) * 300 → M' 103 0 s = 0 ∨ (M' 103 0 s = 1 ∧ ∃ b f' n' y', m_ok T b f' n' y' ∧ s = m_st T b f' n' y' ∧ a ≤ b ∧ b ≤ T 8 0)
  let Clo : Int → qM → Prop := fun p M' => ∀ b f' n' y' b' m', m_ok T b f' n' y' → a ≤ b → b < T 8 0 → m_st T b f' n' y' < p → M' 103 0 (m_st T b f' n' y') = 1 → g_can T b f' n' b' m' → M' 103 0 (m_nx T b f' n' y' b' m') = 1
  -- 3: from the end
  have bwd : ∀ (M0 : qM), fr194 M M0 → Val M0 → M0 103 0 (m_st T a f n y) = 1 → Clo (T 8 0 * 300) M0 → b194_114 d h F c (m_st T a f n y) a (T 8 0 * 300 - 1) M0 := by
    intro M0 O0 val0 st0 clo0
    have loop : ∀ (M5 : qM), (∀ (k : Nat) (m s : Int), ¬ (k = 11 ∧ m = 0 ∧ 51 ≤ s ∧ s ≤ 57) → ¬ (k = 104 ∧ m = 0) → M5 k m s = M0 k m s) → (∀ b f' n' y', m_ok T b f' n' y' → b < T 8 0 → T 8 0 * 300 - 1 < m_st T b f' n' y' → M0 103 0 (m_st T b f' n' y') = 1 → M5 104 0 (m_st T b f' n' y') = g_V T m_I b f' n' (m_x b y')) → b194_114 d h F c (m_st T a f n y) a (T 8 0 * 300 - 1) M5 := by
      refine q_dnto (P := fun p => p < T 8 0 * 300 → ∀ (M5 : qM), (∀ (k : Nat) (m s : Int), ¬ (k = 11 ∧ m = 0 ∧ 51 ≤ s ∧ s ≤ 57) → ¬ (k = 104 ∧ m = 0) → M5 k m s = M0 k m s) → (∀ b f' n' y', m_ok T b f' n' y' → b < T 8 0 → p < m_st T b f' n' y' → M0 103 0 (m_st T b f' n' y') = 1 → M5 104 0 (m_st T b f' n' y') = g_V T m_I b f' n' (m_x b y')) → b194_114 d h F c (m_st T a f n y) a p M5) (a := a * 300 - 1) (b := T 8 0 * 300 - 1) (by omega) ?_ ?_ (by omega)
      · intro _ M5 O5 v5
        refine w194_114 hS ⟨⟨by omega, by omega⟩, fun _ => ⟨⟨ps.1.1, by omega⟩, ?_⟩, fun q => by omega⟩
        rw [v5 a f n y hs ha (by omega) st0]
        have e103 : ∀ s, M5 103 0 s = M0 103 0 s := fun s => O5 _ _ _ (by omega) (by omega)
        refine H M5 (fun k m s q1 q2 => by rw [O5 k m s q1 (by omega), O0 k m s q1 q2]) (by rw [e103]; exact st0) (fun b f' n' y' u1 u2 u3 u4 => ?_)
        have pu := m_st_p hT u1
        rw [e103] at u4
        exact ⟨v5 b f' n' y' u1 u3 (by omega) u4, fun b' m' hc hlt => by rw [e103]; exact clo0 b f' n' y' b' m' u1 u2 u3 (by omega) u4 hc⟩
      · intro p p0 p1 ih hpR M5 O5 v5
        have e103 : ∀ s, M5 103 0 s = M0 103 0 s := fun s => O5 _ _ _ (by omega) (by omega)
        have hM5 : g_mT T c M5 := keep M5 (fun k m s q1 q2 => by rw [O5 k m s q1 (by omega), O0 k m s q1 q2])
        refine w194_114 hS ⟨⟨by omega, by omega⟩, fun q => by omega, fun _ => ⟨⟨by omega, by omega⟩, fun k => ⟨⟨by omega, by omega⟩, ?_⟩, fun k => ?_⟩⟩
        · rw [show p + -1 = p - 1 by omega]
          refine ih (by omega) M5 O5 (fun b f' n' y' u1 u2 u3 u4 => ?_)
          by_cases e : m_st T b f' n' y' = p
          · exfalso; rw [e, ← e103] at u4; omega
          · exact v5 b f' n' y' u1 u2 (by omega) u4
        · rw [e103] at k
          rcases val0 p (by omega) (by omega) with k0 | ⟨k1, b, f', n', y', u1, u2, u3, u4⟩
          · exact absurd k0 k
          · have pu := m_st_p hT u1
            have hbR : b < T 8 0 := by omega
            rw [u2] at k1
            have hp : p = m_st T b f' n' y' := u2
            rw [hp]
            refine t193f hS hT h67 hM5 u1 hbR (fun b' m' hc hlt => ?_) (fun M6 O6 v6 => ⟨⟨by omega, by omega⟩, ?_⟩)
            · have nx := m_next hT u1 hc
              have nxp := m_st_p hT nx.1
              have enx : m_nx T b f' n' y' b' m' = m_st T b' (f' + m') (n' + g_lines T b b' f' m' n') (g_ahead T b b' f' m' n' (m_x b y')) := rfl
              have hcb := hc.1
              have r1 := clo0 b f' n' y' b' m' u1 u3 hbR (by omega) k1 hc
              rw [enx] at r1 ⊢
              rw [v5 _ _ _ _ nx.1 hlt (by omega) r1, nx.2]
            · rw [← hp, show p + -1 = p - 1 by omega]
              refine ih (by omega) M6 (fun k m s q1 q2 => by rw [O6 k m s q1 (by omega)]; exact O5 k m s q1 q2) (fun b9 f9 n9 y9 z1 z2 z3 z4 => ?_)
              by_cases e : m_st T b9 f9 n9 y9 = m_st T b f' n' y'
              · obtain ⟨e1, e2, e3, e4⟩ := m_st_u hT z1 u1 e
                rw [e1, e2, e3, e4]
                exact v6
              · rw [O6 _ _ _ (by omega) (by omega)]
                exact v5 b9 f9 n9 y9 z1 z2 (by omega) z4
    exact loop M0 (fun _ _ _ _ _ => rfl) (fun b f' n' y' u1 u2 u3 _ => by have := m_st_p hT u1; omega)
  -- 2: what is reached
  have fwd : ∀ (M3 : qM), fr194 M M3 → Val M3 → M3 103 0 (m_st T a f n y) = 1 → Clo (a * 300) M3 → b194_61 d h F c (m_st T a f n y) a (a * 300) M3 := by
    refine q_upto (P := fun p => a * 300 ≤ p → ∀ (M3 : qM), fr194 M M3 → Val M3 → M3 103 0 (m_st T a f n y) = 1 → Clo p M3 → b194_61 d h F c (m_st T a f n y) a p M3) (a := a * 300) (b := T 8 0 * 300) (by omega) ?_ ?_ (Int.le_refl _)
    · intro _ M3 O3 val3 st3 clo3
      have hM3 := keep M3 O3
      refine w194_61 hS ⟨hM.1, ?_⟩
      rw [hM3.2.1]
      exact ⟨⟨by omega, by omega⟩, fun q => by omega, fun _ => ⟨hM.1, ⟨by omega, by omega⟩, ⟨by omega, by omega⟩, bwd M3 O3 val3 st3 clo3⟩⟩
    · intro p p0 p1 ih hp0 M3 O3 val3 st3 clo3
      have hM3 := keep M3 O3
      refine w194_61 hS ⟨hM.1, ?_⟩
      rw [hM3.2.1]
      refine ⟨⟨by omega, by omega⟩, fun _ => ⟨⟨by omega, by omega⟩, fun k => ⟨⟨by omega, by omega⟩, ih (by omega) M3 O3 val3 st3 (fun b f' n' y' b' m' u1 u2 u3 u4 u5 hc => ?_)⟩, fun k => ?_⟩, fun q => by omega⟩
      · by_cases e : m_st T b f' n' y' = p
        · rw [e] at u5; omega
        · exact clo3 b f' n' y' b' m' u1 u2 u3 (by omega) u5 hc
      · rcases val3 p hp0 (by omega) with k0 | ⟨k1, b, f', n', y', u1, u2, u3, u4⟩
        · exact absurd k0 k
        · have pu := m_st_p hT u1
          have hbR : b < T 8 0 := by omega
          have hp : p = m_st T b f' n' y' := u2
          rw [hp]
          refine t193m hS hT h67 hM3 u1 hbR (fun M4 O4 r1 r2 => ⟨⟨by omega, by omega⟩, ?_⟩)
          rw [← hp]
          have one : ∀ s, M3 103 0 s = 1 → M4 103 0 s = 1 := fun s hs => by rcases r1 s with r | r; rw [r]; exact hs; exact r.1
          have same : ∀ s, s < (b + 1) * 300 → M4 103 0 s = M3 103 0 s := fun s hs => O4 _ _ _ (by omega) (by omega) (by omega)
          refine ih (by omega) M4 (fun k m s q1 q2 => by rw [O4 k m s q1 (by omega) (by omega)]; exact O3 k m s q1 q2) (fun s s0 s1 => ?_) (one _ st3) (fun b9 f9 n9 y9 b' m' z1 z2 z3 z4 z5 hc => ?_)
          · rcases r1 s with r | ⟨r, b', m', hc, hs⟩
            · rw [r]; exact val3 s s0 s1
            · have nx := m_next hT u1 hc
              have hcb := hc.1
              exact Or.inr ⟨r, b', _, _, _, nx.1, hs, by omega, hcb.2⟩
          · rw [same _ (by have := m_st_p hT z1; omega)] at z5
            by_cases e : m_st T b9 f9 n9 y9 = p
            · obtain ⟨e1, e2, e3, e4⟩ := m_st_u hT z1 u1 (by rw [e]; exact hp)
              rw [e1, e2, e3] at hc
              rw [e1, e2, e3, e4]
              exact r2 b' m' hc
            · exact one _ (clo3 b9 f9 n9 y9 b' m' z1 z2 z3 (by omega) z5 hc)
  -- 1: the start alone
  have init : ∀ (M1 : qM), fr194 M M1 → (∀ s, a * 300 ≤ s → s < a * 300 → M1 103 0 s = if s = m_st T a f n y then 1 else 0) → b194_13 d h F c (m_st T a f n y) a (a * 300) M1 := by
    refine q_upto (P := fun p => a * 300 ≤ p → ∀ (M1 : qM), fr194 M M1 → (∀ s, a * 300 ≤ s → s < p → M1 103 0 s = if s = m_st T a f n y then 1 else 0) → b194_13 d h F c (m_st T a f n y) a p M1) (a := a * 300) (b := (T 8 0 + 1) * 300) (by omega) ?_ ?_ (Int.le_refl _)
    · intro _ M1 O1 v1
      have hM1 := keep M1 O1
      refine w194_13 hS ⟨hM.1, ?_⟩
      rw [hM1.2.1]
      refine ⟨⟨by omega, by omega⟩, ⟨by omega, by omega⟩, fun q => by omega, fun _ => ⟨⟨by omega, by omega⟩, fwd M1 O1 (fun s s0 s1 => ?_) ?_ (fun b f' n' y' b' m' u1 u2 u3 u4 => by have := m_st_p hT u1; omega)⟩⟩
      · rw [v1 s s0 s1]
        by_cases e : s = m_st T a f n y
        · rw [if_pos e]; exact Or.inr ⟨rfl, a, f, n, y, hs, e, Int.le_refl _, by omega⟩
        · rw [if_neg e]; exact Or.inl rfl
      · rw [v1 _ (by omega) (by omega), if_pos rfl]
    · intro p p0 p1 ih hp0 M1 O1 v1
      have hM1 := keep M1 O1
      refine w194_13 hS ⟨hM.1, ?_⟩
      rw [hM1.2.1]
      refine ⟨⟨by omega, by omega⟩, ⟨by omega, by omega⟩, fun _ x hx => ⟨⟨by omega, by omega, by rw [hx]; split <;> omega⟩, fun M2 f2 => ⟨⟨by omega, by omega⟩, ih (by omega) M2 (fun k m s q1 q2 => ?_) (fun s s0 s1 => ?_)⟩⟩, fun q => by omega⟩
      · rw [f2]; unfold qU; rw [if_neg (by omega)]; exact O1 k m s q1 q2
      · rw [f2]
        by_cases e : s = p
        · rw [e, qU_s, hx]
        · rw [qU_l e]; exact v1 s s0 (by omega)
  exact init M (fun _ _ _ _ _ => rfl) (fun s a b => by omega)
