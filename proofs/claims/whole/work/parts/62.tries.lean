/-! ===== FacingleafModel.heightOf, costOfEnds, haveRoomBelow, tries ===== -/
/-- the tables in the memory of the model: chapter c -/
def g_mT (T : pT) (c : Int) (M : qM) : Prop := (0 ≤ c ∧ c < 3) ∧ M 87 0 c = T 8 0 ∧ M 11 0 2 = T 8 1 ∧ M 94 0 c = T 8 2 ∧ M 96 0 c = T 8 3 ∧ (∀ r, 0 ≤ r → r ≤ T 8 0 → M 99 0 r = T 0 r ∧ M 100 0 r = T 1 r ∧ M 101 0 r = T 2 r ∧ M 102 0 r = T 3 r - 1) ∧ (∀ k, 0 ≤ k → k < T 8 2 → (0 ≤ M 95 0 (4 * c + k) ∧ M 95 0 (4 * c + k) < 600) ∧ T 4 (k + 1) = T 4 k + M 71 0 (M 95 0 (4 * c + k))) ∧ ∀ r, 0 ≤ r → r < T 8 0 → (0 ≤ M 88 0 (70 * c + r) ∧ M 88 0 (70 * c + r) < 10) ∧ (-1000 ≤ M 81 0 (10 * c + M 88 0 (70 * c + r)) ∧ M 81 0 (10 * c + M 88 0 (70 * c + r)) ≤ 1000) ∧ T 7 r = (if M 65 0 (10 * c + M 88 0 (70 * c + r)) = 0 then 0 else M 66 0 (10 * c + M 88 0 (70 * c + r))) ∧ T 6 r = (if M 65 0 (10 * c + M 88 0 (70 * c + r)) = 0 then (if M 81 0 (10 * c + M 88 0 (70 * c + r)) ≤ 1 then 0 else if M 89 0 (70 * c + r) = M 81 0 (10 * c + M 88 0 (70 * c + r)) - 1 then 1 else 0) else 0) ∧ T 5 r = (if M 65 0 (10 * c + M 88 0 (70 * c + r)) = 0 then (if M 81 0 (10 * c + M 88 0 (70 * c + r)) ≤ 1 then 0 else if M 89 0 (70 * c + r) = 0 then 1 else 0) else 0)
theorem g_mT_fr {T : pT} {c : Int} {M M' : qM} (h : g_mT T c M) (hf : ∀ (k : Nat) (m s : Int), (k = 87 ∨ (k = 11 ∧ s = 2) ∨ k = 94 ∨ k = 95 ∨ k = 96 ∨ (99 ≤ k ∧ k ≤ 102) ∨ k = 71 ∨ k = 88 ∨ k = 89 ∨ k = 81 ∨ k = 65 ∨ k = 66) → M' k m s = M k m s) : g_mT T c M' := by
  obtain ⟨h0, h1, h2, h3, h4, h5, h6, h7⟩ := h
  refine ⟨h0, by rw [hf _ _ _ (by omega)]; exact h1, by rw [hf _ _ _ (by omega)]; exact h2, by rw [hf _ _ _ (by omega)]; exact h3, by rw [hf _ _ _ (by omega)]; exact h4, fun r a b => ?_, fun k a b => ?_, fun r a b => ?_⟩
  · rw [hf _ _ _ (by omega), hf _ _ _ (by omega), hf _ _ _ (by omega), hf _ _ _ (by omega)]; exact h5 r a b
  · rw [hf 95 _ _ (by omega), hf 71 _ _ (by omega)]; exact h6 k a b
  · rw [hf 88 _ _ (by omega), hf 81 _ _ (by omega), hf 65 _ _ (by omega), hf 66 _ _ (by omega), hf 89 _ _ (by omega)]; exact h7 r a b
theorem t153 {d : Nat} {h : qH} (hS : qSe h) {x y : Int} {M : qM} {f : Int → qM → Prop} (H : f (if x < y then x else y) M) : e153 (d + 1) h x y M f := by
  refine w153 hS ?_
  grind
theorem t182 {d : Nat} {h : qH} (hS : qSe h) {T : pT} {c f m : Int} {M : qM} {F : Int → qM → Prop} (hT : g_tab T) (hM : g_mT T c M) (hf : 0 ≤ f ∧ 0 ≤ m ∧ f + m ≤ T 8 2) (H : F (T 4 (f + m) - T 4 f) M) : e182 (d + 1) h c f m M F := by
  obtain ⟨h0, h1, h2, h3, h4, h5, h6, h7⟩ := id hM
  have hF := hT.2.2.1
  refine w182 hS ?_
  refine q_upto (P := fun k => f ≤ k → b182_6 d h F c f m (T 4 k - T 4 f) k M) (a := f) (b := f + m) (by omega) ?_ ?_ (Int.le_refl _) |> fun q => by rw [show T 4 f - T 4 f = 0 by omega] at q; exact q
  · intro _
    exact w182_6 hS ⟨⟨by omega, by omega⟩, fun q => by omega, fun _ => H⟩
  · intro k k0 k1 ih _
    have a1 := h6 k (by omega) (by omega)
    have a2 := hT.2.2.2.2.2.2.2.2.1 f k hf.1 k0 (by omega)
    have a3 := hT.2.2.2.2.2.2.2.2.1 k (k + 1) (by omega) (by omega) (by omega)
    have e : T 4 k - T 4 f + M 71 0 (M 95 0 (4 * c + k)) = T 4 (k + 1) - T 4 f := by omega
    refine w182_6 hS ⟨⟨by omega, by omega⟩, fun _ => ⟨⟨by omega, by omega⟩, ⟨by omega, by omega⟩, ⟨by omega, by omega⟩, a1.1, ⟨by omega, by omega⟩, ⟨by omega, by omega⟩, ?_⟩, fun q => by omega⟩
    rw [e]
    exact ih (by omega)
theorem t183 {d : Nat} {h : qH} (hS : qSe h) {T : pT} {c a b : Int} {M : qM} {F : Int → qM → Prop} (hT : g_tab T) (hM : g_mT T c M) (hab : 0 ≤ a ∧ a < b ∧ b ≤ T 8 0) (H : F (g_ends T a b) M) : e183 (d + 1) h c a b M F := by
  obtain ⟨h0, h1, h2, h3, h4, h5, h6, h7⟩ := id hM
  have h70 := hT.1
  obtain ⟨p1, p2, p3, p4, p5⟩ := h7 a hab.1 (by omega)
  obtain ⟨r1, r2, r3, r4, r5⟩ := h7 (b - 1) (by omega) (by omega)
  have eb : 70 * c + b - 1 = 70 * c + (b - 1) := by omega
  refine w183 hS ?_
  rw [eb]
  refine ⟨⟨by omega, by omega⟩, ⟨by omega, by omega⟩, ⟨by omega, by omega⟩, ⟨by omega, by omega⟩, ⟨by omega, by omega⟩, ⟨by omega, by omega⟩, ⟨by omega, by omega⟩, ⟨by omega, by omega⟩, ⟨by omega, by omega⟩, ⟨by omega, by omega⟩, ⟨by omega, by omega⟩, ⟨by omega, by omega⟩, fun _ => ⟨⟨by omega, by omega⟩, fun _ => ⟨⟨by omega, by omega⟩, ⟨by omega, by omega⟩, by omega, by omega⟩⟩, fun x hx => ⟨⟨by omega, by omega⟩, fun _ => ⟨⟨by omega, by omega⟩, fun _ => ⟨by omega, by omega⟩⟩, fun y hy z hz u hu => ?_⟩⟩
  rw [← p4] at hx
  rw [← r5] at hy
  have e : z + u = g_ends T a b := by rw [hz, hu, hx, hy]; rfl
  have : 0 ≤ z + u ∧ z + u ≤ 30 := by rw [hz, hu]; split <;> split <;> omega
  refine ⟨⟨by omega, by omega⟩, ?_⟩
  rw [e]
  exact H
theorem t184 {d : Nat} {h : qH} (hS : qSe h) {T : pT} {c a b : Int} {M : qM} {F : Int → qM → Prop} (hT : g_tab T) (hM : g_mT T c M) (hab : 0 ≤ a ∧ a < b ∧ b ≤ T 8 0) (H1 : (b < T 8 0 → ∀ q, a ≤ q → q < b → T 7 q ≤ b - 1 - q) → F 1 M) (H0 : ¬ (b < T 8 0 → ∀ q, a ≤ q → q < b → T 7 q ≤ b - 1 - q) → F 0 M) : e184 (d + 1) h c a b M F := by
  obtain ⟨h0, h1, h2, h3, h4, h5, h6, h7⟩ := id hM
  have h70 := hT.1
  refine w184 hS ?_
  have loop : ∀ (u2 u6 : qV) (x : Int), ((x = 1 ∧ (b < T 8 0 → ∀ q, a ≤ q → q < a → T 7 q ≤ b - 1 - q)) ∨ (x = 0 ∧ ¬ (b < T 8 0 → ∀ q, a ≤ q → q < b → T 7 q ≤ b - 1 - q))) → b184_6 d h F c u2 b x a u6 M := by
    refine q_upto (P := fun j => a ≤ j → ∀ (u2 u6 : qV) (x : Int), ((x = 1 ∧ (b < T 8 0 → ∀ q, a ≤ q → q < j → T 7 q ≤ b - 1 - q)) ∨ (x = 0 ∧ ¬ (b < T 8 0 → ∀ q, a ≤ q → q < b → T 7 q ≤ b - 1 - q))) → b184_6 d h F c u2 b x j u6 M) (a := a) (b := b) (by omega) ?_ ?_ (Int.le_refl _)
    · intro _ u2 u6 x hx
      refine w184_6 hS ⟨fun q => by omega, fun _ => ⟨by omega, ?_⟩⟩
      rcases hx with ⟨rfl, hx⟩ | ⟨rfl, hx⟩
      · exact H1 hx
      · exact H0 hx
    · intro j j0 j1 ih _ u2 u6 x hx
      obtain ⟨r1, r2, r3, r4, r5⟩ := h7 j (by omega) (by omega)
      refine w184_6 hS ⟨fun _ => ⟨h0, fun hb => ⟨⟨by omega, by omega⟩, ⟨by omega, by omega⟩, ⟨by omega, by omega⟩, ⟨by omega, by omega⟩, ⟨by omega, by omega⟩, fun _ => ⟨⟨by omega, by omega⟩, fun _ => ⟨⟨by omega, by omega⟩, ⟨by omega, by omega⟩, by omega, by omega⟩⟩, fun y hy => ⟨⟨by omega, by omega⟩, ih (by omega) _ _ y ?_⟩⟩, fun hb => ⟨by omega, ?_⟩⟩, fun q => by omega⟩
      · rcases hx with ⟨rfl, hx⟩ | ⟨rfl, hx⟩
        · rw [if_neg (by decide)] at hy
          by_cases k : T 7 j ≤ b - 1 - j
          · refine Or.inl ⟨?_, fun _ q q0 q1 => ?_⟩
            · rw [hy]
              split
              · rfl
              · rename_i k2; rw [if_neg k2] at r3; rw [if_neg (by omega)]
            · by_cases hq : q = j
              · rw [hq]; exact k
              · exact hx (by omega) q q0 (by omega)
          · refine Or.inr ⟨?_, fun z => k (z (by omega) j j0 (by omega))⟩
            rw [hy]
            by_cases k2 : M 65 0 (10 * c + M 88 0 (70 * c + j)) = 0
            · rw [if_pos k2] at r3; omega
            · rw [if_neg k2] at r3 ⊢; rw [if_pos (by omega)]
        · rw [if_pos rfl] at hy
          exact Or.inr ⟨hy, hx⟩
      · rcases hx with ⟨rfl, hx⟩ | ⟨rfl, hx⟩
        · exact H1 (fun q => by omega)
        · exact absurd (fun q => by omega) hx
  exact loop _ _ 1 (Or.inl ⟨rfl, fun _ q a b => by omega⟩)
def fr185 (M M' : qM) : Prop := ∀ (k : Nat) (m s : Int), ¬ (k = 11 ∧ m = 0 ∧ 51 ≤ s ∧ s ≤ 57) → M' k m s = M k m s
theorem t185 {d : Nat} {h : qH} (hS : qSe h) {T : pT} {c a b f m n x : Int} {M : qM} {F : Int → qM → Prop} (hT : g_tab T) (hM : g_mT T c M) (hs : g_at T a f n) (hab : a < b ∧ b ≤ T 8 0) (hm : 0 ≤ m ∧ f + m ≤ T 1 b) (hx : 0 ≤ x ∧ x ≤ 14)
    (H1 : g_ok T a b f m n → ∀ M', fr185 M M' → M' 11 0 51 = m → M' 11 0 52 = g_lines T a b f m n → M' 11 0 53 = g_grown T a b f m n → M' 11 0 54 = g_fill T a b f m n → M' 11 0 55 = g_cost T a b f m n + g_far T a b f m n x → F 1 M')
    (H0 : ¬ g_ok T a b f m n → ∀ M', fr185 M M' → F 0 M') : e185 (d + 2) h c a f n x (b - a) m M F := by
  have nums := g_nums hT hs hab hm
  have tb := g_tab_at hT (a := b) ⟨by have := hs.1; omega, hab.2⟩
  have ta := g_tab_at hT hs.1
  have ta1 := g_tab_at hT (a := a + 1) ⟨by have := hs.1; omega, by omega⟩
  obtain ⟨c0, c1, c2, c3, c4, c5, c6, c7⟩ := id hM
  have hs1 := hs.1
  have hs2 := hs.2.1
  have hs3 := hs.2.2
  have hD := hT.2.1
  have h70 := hT.1
  have hF := hT.2.2.1
  have hN := hT.2.2.2.1
  have hmono := hT.2.2.2.2.2.2.1 a b hs1.1 (by omega) hab.2
  have x1 := c5 b (by omega) hab.2
  have x2 := c5 (a + 1) (by omega) (by omega)
  have x3 := c5 a (by omega) (by omega)
  have eb : a + (b - a) = b := by omega
  have hh : b - a + (T 0 b - T 0 (a + 1)) + (T 4 (f + m) - T 4 f) = g_high T a b f m := by unfold g_high; omega
  refine w185 hS ?_
  rw [eb, x1.1, x2.1]
  refine ⟨⟨by omega, by omega⟩, ⟨by omega, by omega⟩, ⟨by omega, by omega⟩, ⟨by omega, by omega⟩, ⟨by omega, by omega⟩, ⟨by omega, by omega⟩, t182 hS hT hM ⟨hs2.1, hm.1, by omega⟩ ?_⟩
  rw [hh, x1.2.2.1, c2]
  refine ⟨⟨by omega, by omega⟩, ⟨by omega, by omega⟩, ⟨by omega, by omega⟩, ⟨by omega, by omega⟩, fun k1 => H0 (fun ok => by have := ok.1; omega) M (fun _ _ _ _ => rfl), fun k1 => ?_⟩
  refine t184 hS hT hM ⟨hs1.1, hab⟩ (fun hroom => ⟨fun q => absurd q (by decide), fun _ => ?_⟩) (fun hroom => ⟨fun _ => H0 (fun ok => hroom ok.2.1) M (fun _ _ _ _ => rfl), fun q => absurd rfl q⟩)
  -- lines
  have behind : ∀ M1 : qM, fr185 M M1 → M1 11 0 52 = g_lines T a b f m n → ∀ (u4 u6 u11 u13 u14 u15 : qV), g_ok T a b f m n → b185_137 d h F c a f u4 x u6 m b (T 0 b - T 0 (a + 1)) (g_high T a b f m) u11 (T 2 b - n) u13 u14 u15 M1 := by
    intro M1 O1 l1 u4 u6 u11 u13 u14 u15 ok
    have nn := nums.2.2.2.2.2 ok
    refine w185_137 hS (fun M2 f2 => ⟨⟨by omega, by omega⟩, ?_⟩)
    have O2 : fr185 M M2 := fun k m s q => by rw [f2, ← O1 k m s q]; unfold qU; rw [if_neg (by omega)]
    have v2 : M2 11 0 51 = m ∧ M2 11 0 52 = g_lines T a b f m n := ⟨by rw [f2, qU_s], by rw [f2, qU_l (by decide), l1]⟩
    have y2 : M2 100 0 b = T 1 b := by rw [O2 _ _ _ (by omega)]; exact x1.2.1
    have hlt : T 1 b - f - m = g_late T b f m := rfl
    rw [y2, hlt]
    refine ⟨⟨by omega, by omega⟩, ⟨by omega, by omega⟩, fun M3 f3 => ?_⟩
    have O3 : fr185 M M3 := fun k m s q => by rw [f3, ← O2 k m s q]; unfold qU; rw [if_neg (by omega)]
    have v3 : M3 11 0 51 = m ∧ M3 11 0 52 = g_lines T a b f m n ∧ M3 11 0 56 = g_late T b f m := ⟨by rw [f3, qU_l (by decide), v2.1], by rw [f3, qU_l (by decide), v2.2], by rw [f3, qU_s]⟩
    rw [v3.2.1]
    refine ⟨⟨by omega, by omega⟩, fun M4 f4 => ⟨c0, fun L hL => ?_⟩⟩
    have O4 : fr185 M M4 := fun k m s q => by rw [f4, ← O3 k m s q]; unfold qU; rw [if_neg (by omega)]
    have v4 : M4 11 0 51 = m ∧ M4 11 0 52 = g_lines T a b f m n ∧ M4 11 0 56 = g_late T b f m ∧ M4 11 0 57 = T 2 b - n - g_lines T a b f m n := ⟨by rw [f4, qU_l (by decide), v3.1], by rw [f4, qU_l (by decide), v3.2.1], by rw [f4, qU_l (by decide), v3.2.2], by rw [f4, qU_s]⟩
    have y4 : M4 87 0 c = T 8 0 := by rw [O4 _ _ _ (by omega)]; exact c1
    rw [y4, v4.2.2.1, v4.2.2.2] at hL
    have hL2 : L = g_last T a b f m n := by
      rw [hL]
      unfold g_last
      by_cases k1 : b = T 8 0
      · rw [if_pos k1, if_pos k1]
        by_cases k2 : g_late T b f m = 0
        · rw [if_pos k2, if_pos k2]
          by_cases k3 : g_lines T a b f m n = T 2 b - n
          · rw [if_pos k3, if_pos (by omega)]
          · rw [if_neg k3, if_neg (by omega)]
        · rw [if_neg k2, if_neg k2]
      · rw [if_neg k1, if_neg k1]
    rw [v4.2.1, hL2]
    refine ⟨fun _ => ⟨by omega, by omega⟩, fun z hz => ?_⟩
    have hz2 : 0 ≤ z ∧ z ≤ 13 := by rw [hz]; split <;> omega
    have hfill0 : g_high T a b f m + z = g_fill0 T a b f m n := by rw [hz]; rfl
    rw [hfill0]
    have nf : 0 ≤ g_fill0 T a b f m n := by have := nn.2.2.2.1; unfold g_fill at this; omega
    refine ⟨⟨by omega, by omega⟩, fun M5 f5 => ?_⟩
    have O5 : fr185 M M5 := fun k m s q => by rw [f5, ← O4 k m s q]; unfold qU; rw [if_neg (by omega)]
    have v5 : M5 11 0 51 = m ∧ M5 11 0 52 = g_lines T a b f m n ∧ M5 11 0 56 = g_late T b f m ∧ M5 11 0 57 = T 2 b - n - g_lines T a b f m n ∧ M5 11 0 54 = g_fill0 T a b f m n ∧ M5 11 0 2 = T 8 1 := ⟨by rw [f5, qU_l (by decide), v4.1], by rw [f5, qU_l (by decide), v4.2.1], by rw [f5, qU_l (by decide), v4.2.2.1], by rw [f5, qU_l (by decide), v4.2.2.2], by rw [f5, qU_s], by rw [O5 _ _ _ (by omega)]; exact c2⟩
    rw [v5.2.2.2.2.1, v5.2.2.2.2.2]
    -- behind what it has grown by
    have rest : ∀ M6 : qM, fr185 M M6 → M6 11 0 51 = m → M6 11 0 52 = g_lines T a b f m n → M6 11 0 56 = g_late T b f m → M6 11 0 57 = T 2 b - n - g_lines T a b f m n → M6 11 0 53 = g_grown T a b f m n → M6 11 0 54 = g_fill T a b f m n → ∀ y, y = (if M6 11 0 54 ≤ x then x - M6 11 0 54 else M6 11 0 54 - x) → (g_last T a b f m n = 0 → qIn (T 8 1 - g_fill0 T a b f m n - M6 11 0 53) ∧ qIn (T 8 1 - g_fill0 T a b f m n - M6 11 0 53) ∧ qIn ((T 8 1 - g_fill0 T a b f m n - M6 11 0 53) * (T 8 1 - g_fill0 T a b f m n - M6 11 0 53)) ∧ qIn (M6 11 0 53 + (T 8 1 - g_fill0 T a b f m n - M6 11 0 53) * (T 8 1 - g_fill0 T a b f m n - M6 11 0 53)) ∧ (x ≤ 0 → qIn (M6 11 0 53 + (T 8 1 - g_fill0 T a b f m n - M6 11 0 53) * (T 8 1 - g_fill0 T a b f m n - M6 11 0 53) + 0)) ∧ (¬ (x ≤ 0) → qIn (M6 11 0 53 + (T 8 1 - g_fill0 T a b f m n - M6 11 0 53) * (T 8 1 - g_fill0 T a b f m n - M6 11 0 53) + y))) ∧ (∀ z, z = (if g_last T a b f m n = 0 then (if x ≤ 0 then M6 11 0 53 + (T 8 1 - g_fill0 T a b f m n - M6 11 0 53) * (T 8 1 - g_fill0 T a b f m n - M6 11 0 53) + 0 else M6 11 0 53 + (T 8 1 - g_fill0 T a b f m n - M6 11 0 53) * (T 8 1 - g_fill0 T a b f m n - M6 11 0 53) + y) else 0) → ∀ M7, M7 = qU M6 11 0 55 z → e183 (d + 1) h c a b M7 (fun v M8 => qIn (3 * M8 11 0 56) ∧ qIn (v + 3 * M8 11 0 56) ∧ qIn (2 * M8 11 0 57) ∧ qIn (v + 3 * M8 11 0 56 + 2 * M8 11 0 57) ∧ qIn (M7 11 0 55 + (v + 3 * M8 11 0 56 + 2 * M8 11 0 57)) ∧ ∀ M9, M9 = qU M8 11 0 55 (M7 11 0 55 + (v + 3 * M8 11 0 56 + 2 * M8 11 0 57)) → F 1 M9)) := by
      intro M6 O6 w51 w52 w56 w57 w53 w54 y hy
      rw [w53]
      rw [w54] at hy
      have hlk : T 8 1 - g_fill0 T a b f m n - g_grown T a b f m n = g_lack T a b f m n := rfl
      rw [hlk]
      have sq := q_sq (x := g_lack T a b f m n) (by omega) (by omega)
      have hy2 : 0 ≤ y ∧ y ≤ 14 := by rw [hy]; split <;> omega
      refine ⟨fun _ => ⟨⟨by omega, by omega⟩, ⟨by omega, by omega⟩, sq.1, ⟨by omega, by omega⟩, fun _ => ⟨by omega, by omega⟩, fun _ => ⟨by omega, by omega⟩⟩, fun z hz M7 f7 => ?_⟩
      have O7 : fr185 M M7 := fun k m s q => by rw [f7, ← O6 k m s q]; unfold qU; rw [if_neg (by omega)]
      refine t183 hS hT (g_mT_fr hM (fun k m s q => O7 k m s (by omega))) ⟨hs1.1, hab⟩ ?_
      have u56 : M7 11 0 56 = g_late T b f m := by rw [f7, qU_l (by decide), w56]
      have u57 : M7 11 0 57 = T 2 b - n - g_lines T a b f m n := by rw [f7, qU_l (by decide), w57]
      have u55 : M7 11 0 55 = z := by rw [f7, qU_s]
      rw [u56, u57, u55]
      have hfar : g_far T a b f m n x = (if g_last T a b f m n = 0 then (if x ≤ 0 then 0 else y) else 0) := by
        unfold g_far
        rw [hy]
        by_cases kl : g_last T a b f m n = 0
        · rw [if_pos kl, if_pos kl]
          by_cases k1 : x = 0
          · rw [if_pos k1, if_pos (show x ≤ 0 by omega)]
          · rw [if_neg k1, if_neg (show ¬ x = 15 by omega), if_neg (show ¬ x ≤ 0 by omega)]
            by_cases k2 : g_fill T a b f m n < x
            · rw [if_pos k2, if_pos (show g_fill T a b f m n ≤ x by omega)]
            · rw [if_neg k2]
              split <;> omega
        · rw [if_neg kl, if_neg kl]
          split
          · rfl
          · split <;> rfl
      have hz3 : z + (g_ends T a b + 3 * g_late T b f m + 2 * (T 2 b - n - g_lines T a b f m n)) = g_cost T a b f m n + g_far T a b f m n x := by
        rw [hfar, hz]
        unfold g_cost
        split
        · split <;> omega
        · omega
      have hz4 : 0 ≤ z ∧ z ≤ 1000000 + 100 := by
        rw [hz]
        split
        · split <;> omega
        · omega
      refine ⟨⟨by omega, by omega⟩, ⟨by omega, by omega⟩, ⟨by omega, by omega⟩, ⟨by omega, by omega⟩, ⟨by omega, by omega⟩, fun M9 f9 => ?_⟩
      have O9 : fr185 M M9 := fun k m s q => by rw [f9, ← O7 k m s q]; unfold qU; rw [if_neg (by omega)]
      refine H1 ok M9 O9 ?_ ?_ ?_ ?_ ?_
      · rw [f9, qU_l (by decide), f7, qU_l (by decide), w51]
      · rw [f9, qU_l (by decide), f7, qU_l (by decide), w52]
      · rw [f9, qU_l (by decide), f7, qU_l (by decide), w53]
      · rw [f9, qU_l (by decide), f7, qU_l (by decide), w54]
      · rw [f9, qU_s]; exact hz3
    refine ⟨⟨by omega, by omega⟩, fun k0 => ?_, fun k0 => fun M6 f6 => ?_⟩
    · refine t153 hS (fun M6 f6 => ?_)
      have hgr : (if T 0 b - T 0 (a + 1) < T 8 1 - g_fill0 T a b f m n then T 0 b - T 0 (a + 1) else T 8 1 - g_fill0 T a b f m n) = g_grown T a b f m n := by
        unfold g_grown
        rw [if_pos k0]
        split <;> split <;> omega
      rw [hgr] at f6
      have O6 : fr185 M M6 := fun k m s q => by rw [f6, ← O5 k m s q]; unfold qU; rw [if_neg (by omega)]
      have v6 : M6 11 0 54 = g_fill0 T a b f m n ∧ M6 11 0 53 = g_grown T a b f m n := ⟨by rw [f6, qU_l (by decide), v5.2.2.2.2.1], by rw [f6, qU_s]⟩
      rw [v6.1, v6.2]
      refine ⟨⟨by omega, by omega⟩, fun M7 f7 => ?_⟩
      have O7 : fr185 M M7 := fun k m s q => by rw [f7, ← O6 k m s q]; unfold qU; rw [if_neg (by omega)]
      have w54 : M7 11 0 54 = g_fill T a b f m n := by rw [f7, qU_s]; rfl
      refine ⟨⟨fun _ => by rw [w54]; exact ⟨by omega, by omega⟩, fun _ => by rw [w54]; exact ⟨by omega, by omega⟩⟩, fun y hy => ?_⟩
      exact rest M7 O7 (by rw [f7, qU_l (by decide), f6, qU_l (by decide), v5.1]) (by rw [f7, qU_l (by decide), f6, qU_l (by decide), v5.2.1]) (by rw [f7, qU_l (by decide), f6, qU_l (by decide), v5.2.2.1]) (by rw [f7, qU_l (by decide), f6, qU_l (by decide), v5.2.2.2.1]) (by rw [f7, qU_l (by decide), v6.2]) w54 y hy
    · have hgr : (0 : Int) = g_grown T a b f m n := by
        unfold g_grown
        rw [if_neg k0]
      have O6 : fr185 M M6 := fun k m s q => by rw [f6, ← O5 k m s q]; unfold qU; rw [if_neg (by omega)]
      have v6 : M6 11 0 54 = g_fill0 T a b f m n ∧ M6 11 0 53 = g_grown T a b f m n := ⟨by rw [f6, qU_l (by decide), v5.2.2.2.2.1], by rw [f6, qU_s]; exact hgr⟩
      rw [v6.1, v6.2]
      refine ⟨⟨by omega, by omega⟩, fun M7 f7 => ?_⟩
      have O7 : fr185 M M7 := fun k m s q => by rw [f7, ← O6 k m s q]; unfold qU; rw [if_neg (by omega)]
      have w54 : M7 11 0 54 = g_fill T a b f m n := by rw [f7, qU_s]; rfl
      refine ⟨⟨fun _ => by rw [w54]; exact ⟨by omega, by omega⟩, fun _ => by rw [w54]; exact ⟨by omega, by omega⟩⟩, fun y hy => ?_⟩
      exact rest M7 O7 (by rw [f7, qU_l (by decide), f6, qU_l (by decide), v5.1]) (by rw [f7, qU_l (by decide), f6, qU_l (by decide), v5.2.1]) (by rw [f7, qU_l (by decide), f6, qU_l (by decide), v5.2.2.1]) (by rw [f7, qU_l (by decide), f6, qU_l (by decide), v5.2.2.2.1]) (by rw [f7, qU_l (by decide), v6.2]) w54 y hy
  have hroom2 : g_room T a b f m = T 8 1 - g_high T a b f m - 1 := rfl
  -- both ways to the lines end alike
  have both : ∀ M1 : qM, (∀ (k : Nat) (m s : Int), ¬ (k = 11 ∧ m = 0 ∧ s = 52) → M1 k m s = M k m s) → M1 11 0 52 = g_lines T a b f m n → ∀ (u4 u6 u11 : qV), (0 ≤ b ∧ b < 72) ∧ (0 ≤ a ∧ a < 72) ∧ (M1 101 0 b ≤ M1 101 0 a → b185_137 d h F c a f u4 x u6 m b (T 0 b - T 0 (a + 1)) (g_high T a b f m) u11 (T 2 b - n) q_u q_u q_u M1) ∧ (¬ (M1 101 0 b ≤ M1 101 0 a) → qIn (n + M1 11 0 52) ∧ (0 ≤ b ∧ b < 72) ∧ (n + M1 11 0 52 ≤ M1 102 0 b → F 0 M1) ∧ (¬ (n + M1 11 0 52 ≤ M1 102 0 b) → b185_137 d h F c a f u4 x u6 m b (T 0 b - T 0 (a + 1)) (g_high T a b f m) u11 (T 2 b - n) q_u q_u q_u M1)) := by
    intro M1 O1 l1 u4 u6 u11
    have O1' : fr185 M M1 := fun k m s q => O1 k m s (by omega)
    rw [O1 101 0 b (by omega), O1 101 0 a (by omega), O1 102 0 b (by omega), x1.2.2.1, x3.2.2.1, x1.2.2.2, l1]
    refine ⟨⟨by omega, by omega⟩, ⟨by omega, by omega⟩, fun k2 => ?_, fun k2 => ⟨⟨by omega, by omega⟩, ⟨by omega, by omega⟩, fun k3 => H0 (fun ok => by have := ok.2.2; omega) M1 O1', fun k3 => ?_⟩⟩
    · have e3 := hmono.2.2.2.2 (by omega)
      exact behind M1 O1' l1 _ _ _ _ _ _ ⟨by omega, hroom, by omega⟩
    · exact behind M1 O1' l1 _ _ _ _ _ _ ⟨by omega, hroom, by omega⟩
  refine ⟨fun k2 => fun M1 f1 => ?_, fun k2 => ⟨⟨by omega, by omega⟩, t153 hS (fun M1 f1 => ?_)⟩⟩
  · have l1 : M1 11 0 52 = g_lines T a b f m n := by
      rw [f1, qU_s]
      unfold g_lines
      rw [if_pos (by omega)]
    exact both M1 (fun k m s q => by rw [f1]; unfold qU; rw [if_neg q]) l1 _ _ _
  · have l1 : M1 11 0 52 = g_lines T a b f m n := by
      rw [f1, qU_s]
      unfold g_lines
      rw [if_neg (show ¬ g_room T a b f m < 1 by rw [hroom2]; omega), hroom2]
    exact both M1 (fun k m s q => by rw [f1]; unfold qU; rw [if_neg q]) l1 _ _ _
