/-! ===== pages that are kept: Composer.keepPages ===== -/
def g_kr (O : pT) (same : Int → Prop) (k : Int) : Prop := ∀ r, g_bf O 0 k ≤ r → r < O 0 k → same r
def g_kp (T O : pT) (same : Int → Prop) (P : pT) (k : Int) : Prop := g_kr O same k ∧ g_can T (g_bf P 0 k) (g_bf P 1 k) (g_bf P 2 k) (O 0 k) (O 1 k - g_bf O 1 k)
/-- page k is made so -/
def g_pg (T P : pT) (k b m : Int) : Prop := P 0 k = b ∧ P 1 k = g_bf P 1 k + m ∧ P 2 k = g_bf P 2 k + g_lines T (g_bf P 0 k) b (g_bf P 1 k) m (g_bf P 2 k) ∧ P 3 k = g_grown T (g_bf P 0 k) b (g_bf P 1 k) m (g_bf P 2 k) ∧ P 4 k = g_fill T (g_bf P 0 k) b (g_bf P 1 k) m (g_bf P 2 k)
def g_kept (T O : pT) (same : Int → Prop) (wo : Int) (P : pT) (c : Int) : Prop := (0 ≤ c ∧ (c = 0 ∨ c ≤ wo - 1)) ∧ (∀ k, 0 ≤ k → k < c → g_kp T O same P k ∧ g_pg T P k (O 0 k) (O 1 k - g_bf O 1 k)) ∧ (wo - 1 ≤ c ∨ ¬ g_kp T O same P c)
/-- what a page costs with the one ahead of it -/
def g_kc (T P : pT) (k : Int) : Int := g_cost T (g_bf P 0 k) (P 0 k) (g_bf P 1 k) (P 1 k - g_bf P 1 k) (g_bf P 2 k) + g_far T (g_bf P 0 k) (P 0 k) (g_bf P 1 k) (P 1 k - g_bf P 1 k) (g_bf P 2 k) (g_x P k)
/-- the old pages are as pages are -/
def g_old (O : pT) (wo : Int) : Prop := (0 ≤ wo ∧ wo ≤ 70) ∧ ∀ k, 0 ≤ k → k < wo → (0 ≤ g_bf O 0 k ∧ g_bf O 0 k < O 0 k ∧ O 0 k ≤ 70) ∧ (0 ≤ g_bf O 1 k ∧ g_bf O 1 k ≤ O 1 k ∧ O 1 k ≤ 4)
theorem g_add_pg {T P : pT} {c b m : Int} : g_pg T (g_add T P c b m) c b m := by
  have hap := g_ap_c (P := P) (c := c) (a0 := b) (a1 := g_bf P 1 c + m) (a2 := g_bf P 2 c + g_lines T (g_bf P 0 c) b (g_bf P 1 c) m (g_bf P 2 c)) (a3 := g_grown T (g_bf P 0 c) b (g_bf P 1 c) m (g_bf P 2 c)) (a4 := g_fill T (g_bf P 0 c) b (g_bf P 1 c) m (g_bf P 2 c))
  obtain ⟨f0, f1, f2, fx⟩ := g_bf_c (P := P) (P' := g_add T P c b m) (c := c) (k := c) (fun j q hq => g_ap_o (by omega)) (Int.le_refl _)
  unfold g_pg
  rw [f0, f1, f2]
  exact hap
theorem g_pg_c {T P P' : pT} {c k b m : Int} (h : ∀ j q, q < c → P' j q = P j q) (hk : k < c) (hb : g_pg T P k b m) : g_pg T P' k b m := by
  obtain ⟨e0, e1, e2, ex⟩ := g_bf_c h (k := k) (by omega)
  unfold g_pg
  rw [e0, e1, e2, h 0 k hk, h 1 k hk, h 2 k hk, h 3 k hk, h 4 k hk]
  exact hb
theorem g_kp_c {T O P P' : pT} {same : Int → Prop} {c k : Int} (h : ∀ j q, q < c → P' j q = P j q) (hk : k ≤ c) : g_kp T O same P' k ↔ g_kp T O same P k := by
  obtain ⟨e0, e1, e2, ex⟩ := g_bf_c h (k := k) hk
  unfold g_kp
  rw [e0, e1, e2]
theorem g_kc_c {T P P' : pT} {c k : Int} (h : ∀ j q, q < c → P' j q = P j q) (hk : k < c) : g_kc T P' k = g_kc T P k := by
  obtain ⟨e0, e1, e2, ex⟩ := g_bf_c h (k := k) (by omega)
  unfold g_kc
  rw [e0, e1, e2, ex, h 0 k hk, h 1 k hk]
theorem p_sum_c {g g' : Int → Int} {n : Int} (hn : 0 ≤ n) (h : ∀ k, 0 ≤ k → k < n → g' k = g k) : p_sum g' n = p_sum g n := by
  refine q_dnto (P := fun x => x ≤ n → p_sum g' x = p_sum g x) (a := 0) (b := n) hn (fun _ => rfl) (fun x x0 x1 ih x2 => ?_) (Int.le_refl _)
  have a := p_sum_s (g := g') (x := x - 1) (by omega)
  have b := p_sum_s (g := g) (x := x - 1) (by omega)
  rw [show x - 1 + 1 = x by omega] at a b
  rw [a, b, ih (by omega), h (x - 1) (by omega) (by omega)]
/-- some pages, kept or made -/
def g_some (T P : pT) (c : Int) : Prop := (0 ≤ c ∧ c ≤ g_bf P 0 c) ∧ g_st T P c ∧ (∀ k, 0 ≤ k → k < c → 1 ≤ P 4 k ∧ P 4 k ≤ 14) ∧ (∀ k, 0 ≤ k → k < c → P 0 k ≤ g_bf P 0 c) ∧ (0 ≤ p_sum (g_kc T P) c ∧ p_sum (g_kc T P) c ≤ 500 * c)
theorem g_some_0 {T P : pT} (hT : g_tab T) : g_some T P 0 := by
  have e : ∀ j : Int, g_bf P j 0 = 0 := fun j => by unfold g_bf; rw [if_pos (Int.le_refl _)]
  refine ⟨⟨Int.le_refl _, by rw [e]; exact Int.le_refl _⟩, ?_, fun k a b => by omega, fun k a b => by omega, by rw [p_sum_0]; omega⟩
  unfold g_st
  rw [e, e, e]
  exact g_at_0 hT
theorem g_some_x {T P : pT} {c : Int} (h : g_some T P c) : 0 ≤ g_x P c ∧ g_x P c ≤ 15 := by
  unfold g_x
  split
  · omega
  · split
    · have := h.2.2.1 (c - 1) (by have := h.1; omega) (by omega); omega
    · omega
theorem g_some_s {T P : pT} {c b m : Int} (hT : g_tab T) (h : g_some T P c) (hc : g_can T (g_bf P 0 c) (g_bf P 1 c) (g_bf P 2 c) b m) : g_some T (g_add T P c b m) (c + 1) ∧ p_sum (g_kc T (g_add T P c b m)) (c + 1) = p_sum (g_kc T P) c + (g_cost T (g_bf P 0 c) b (g_bf P 1 c) m (g_bf P 2 c) + g_far T (g_bf P 0 c) b (g_bf P 1 c) m (g_bf P 2 c) (g_x P c)) ∧ g_bf (g_add T P c b m) 0 (c + 1) = b := by
  obtain ⟨⟨h1, h2⟩, h3, h4, h5, h6⟩ := id h
  have hold : ∀ j q, q < c → g_add T P c b m j q = P j q := fun j q hq => g_ap_o (by omega)
  have pg := g_add_pg (T := T) (P := P) (c := c) (b := b) (m := m)
  obtain ⟨f0, f1, f2, fx⟩ := g_bf_c hold (k := c) (Int.le_refl _)
  unfold g_pg at pg
  rw [f0, f1, f2] at pg
  have n0 : g_bf (g_add T P c b m) 0 (c + 1) = b := (g_bf_s h1).trans pg.1
  have n1 : g_bf (g_add T P c b m) 1 (c + 1) = g_bf P 1 c + m := (g_bf_s h1).trans pg.2.1
  have n2 : g_bf (g_add T P c b m) 2 (c + 1) = g_bf P 2 c + g_lines T (g_bf P 0 c) b (g_bf P 1 c) m (g_bf P 2 c) := (g_bf_s h1).trans pg.2.2.1
  have nums := g_nums hT h3 hc.1 ⟨hc.2.1.1, hc.2.1.2.2⟩
  have nn := nums.2.2.2.2.2 hc.2.2
  have nxt := g_next hT h3 hc.1 ⟨hc.2.1.1, hc.2.1.2.2⟩ hc.2.2
  have hx := g_some_x h
  have fb := g_far_bd (T := T) (a := g_bf P 0 c) (b := b) (f := g_bf P 1 c) (m := m) (n := g_bf P 2 c) nn.2.2.2.1 hx
  have hcb := hc.1
  have e1 : g_kc T (g_add T P c b m) c = g_cost T (g_bf P 0 c) b (g_bf P 1 c) m (g_bf P 2 c) + g_far T (g_bf P 0 c) b (g_bf P 1 c) m (g_bf P 2 c) (g_x P c) := by
    unfold g_kc
    rw [f0, f1, f2, fx, pg.1, pg.2.1, show g_bf P 1 c + m - g_bf P 1 c = m by omega]
  have es : p_sum (g_kc T (g_add T P c b m)) (c + 1) = p_sum (g_kc T P) c + (g_cost T (g_bf P 0 c) b (g_bf P 1 c) m (g_bf P 2 c) + g_far T (g_bf P 0 c) b (g_bf P 1 c) m (g_bf P 2 c) (g_x P c)) := by
    rw [p_sum_s h1, e1, p_sum_c h1 (fun k a b => g_kc_c hold b)]
  refine ⟨⟨⟨by omega, by rw [n0]; omega⟩, by unfold g_st; rw [n0, n1, n2]; exact nxt, fun k k0 k1 => ?_, fun k k0 k1 => ?_, by rw [es]; omega⟩, es, n0⟩
  · by_cases e : k = c
    · rw [e, pg.2.2.2.2]; exact nn.2.2.2.1
    · rw [hold 4 k (by omega)]; exact h4 k k0 (by omega)
  · rw [n0]
    by_cases e : k = c
    · rw [e, pg.1]; exact Int.le_refl _
    · rw [hold 0 k (by omega)]; have := h5 k k0 (by omega); omega
/-- the loop of keepPages, when there is something to keep -/
theorem t19_84 {d : Nat} {h : qH} (hS : qSe h) {T O P : pT} {c e e' wo co : Int} {M : qM} {F : qM → Prop} (hT : g_tab T) (hc : 0 ≤ c ∧ c < 3) (he : 0 ≤ e ∧ 0 ≤ e' ∧ e ≠ e') (h7 : M 2 0 7 = e + 1) (h8 : M 2 0 8 = e' + 1) (hM : g_cM T (1 + 3 * e + c) M) (hP : g_cP P 0 (0 + 3 * e + c) M) (hw0 : M 8 (0 + 3 * e + c) 2 = 0 ∧ M 8 (0 + 3 * e + c) 3 = 0)
    (hO : g_cP O co (0 + 3 * e' + c) M) (hwo : M 8 (0 + 3 * e' + c) 2 = wo) (hold : g_old O wo) (hco : wo ≤ co) (hit : ∀ r, 0 ≤ r → r < T 8 0 → 0 ≤ M 48 (1 + 3 * e + c) r ∧ M 48 (1 + 3 * e + c) r < 10)
    (H : ∀ M' P' c', fr67 (0 + 3 * e + c) M M' → g_cP P' c' (0 + 3 * e + c) M' → g_kept T O (fun r => p_srow M e e' c r r) wo P' c' → g_some T P' c' → M' 8 (0 + 3 * e + c) 2 = c' → M' 8 (0 + 3 * e + c) 3 = p_sum (g_kc T P') c' → F M') : b19_84 d h F c (0 + 3 * e' + c) 0 0 M := by
  have h70 := hT.1
  have loop : ∀ (t : Nat) (k : Int) (Q : pT) (M1 : qM), wo - k ≤ t → 0 ≤ k → (k = 0 ∨ k ≤ wo - 1) → fr67 (0 + 3 * e + c) M M1 → g_cP Q k (0 + 3 * e + c) M1 → (∀ q, 0 ≤ q → q < k → g_kp T O (fun r => p_srow M e e' c r r) Q q ∧ g_pg T Q q (O 0 q) (O 1 q - g_bf O 1 q)) → g_some T Q k → M1 8 (0 + 3 * e + c) 2 = k → M1 8 (0 + 3 * e + c) 3 = p_sum (g_kc T Q) k → b19_84 d h F c (0 + 3 * e' + c) (g_bf O 0 k) k M1 := by
    intro t
    induction t with
    | zero =>
      intro k Q M1 e0 k0 k1 O1 hQ hkp hso hw1 ht1
      have w1 : M1 8 (0 + 3 * e' + c) 2 = wo := by rw [O1 _ _ _ (by omega) (by omega)]; exact hwo
      have hh := hold.1
      refine w19_84 hS ?_
      rw [w1]
      exact ⟨⟨by omega, by omega⟩, fun q => by omega, fun _ => H M1 Q k O1 hQ ⟨⟨k0, k1⟩, hkp, Or.inl (by omega)⟩ hso hw1 ht1⟩
    | succ t ih =>
      intro k Q M1 e0 k0 k1 O1 hQ hkp hso hw1 ht1
      have w1 : M1 8 (0 + 3 * e' + c) 2 = wo := by rw [O1 _ _ _ (by omega) (by omega)]; exact hwo
      have hh := hold.1
      refine w19_84 hS ?_
      rw [w1]
      refine ⟨⟨by omega, by omega⟩, fun hlt => ?_, fun q => H M1 Q k O1 hQ ⟨⟨k0, k1⟩, hkp, Or.inl (by omega)⟩ hso hw1 ht1⟩
      have ok := hold.2 k k0 (by omega)
      have x7 : M1 2 0 7 = e + 1 := by rw [O1 _ _ _ (by omega) (by omega)]; exact h7
      have x8 : M1 2 0 8 = e' + 1 := by rw [O1 _ _ _ (by omega) (by omega)]; exact h8
      have y7 : M1 2 0 7 - 1 = e := by omega
      have y8 : M1 2 0 8 - 1 = e' := by omega
      have o43 : M1 43 (0 + 3 * e' + c) k = O 0 k := by rw [O1 _ _ _ (by omega) (by omega)]; exact (hO.2 k k0 (by omega)).1
      have o44 : ∀ q, 0 ≤ q → q < co → M1 44 (0 + 3 * e' + c) q = O 1 q := fun q a b => by rw [O1 _ _ _ (by omega) (by omega)]; exact (hO.2 q a b).2.1
      have hM1 : g_cM T (1 + 3 * e + c) M1 := g_cM_fr hM (fun k m s q => O1 k m s (by omega) (by omega))
      have sr : ∀ r, p_srow M1 e e' c r r ↔ p_srow M e e' c r r := fun r => by
        unfold p_srow
        rw [O1 9 _ _ (by omega) (by omega), O1 9 _ _ (by omega) (by omega), O1 48 _ _ (by omega) (by omega), O1 48 _ _ (by omega) (by omega), O1 49 _ _ (by omega) (by omega), O1 49 _ _ (by omega) (by omega), O1 50 _ _ (by omega) (by omega), O1 50 _ _ (by omega) (by omega), O1 23 _ _ (by omega) (by omega), O1 23 _ _ (by omega) (by omega)]
      have fin : ¬ g_kp T O (fun r => p_srow M e e' c r r) Q k → ∀ M2, fr67 (0 + 3 * e + c) M M2 → g_cP Q k (0 + 3 * e + c) M2 → M2 8 (0 + 3 * e + c) 2 = M1 8 (0 + 3 * e + c) 2 → M2 8 (0 + 3 * e + c) 3 = M1 8 (0 + 3 * e + c) 3 → F M2 := fun hno M2 O2 hQ2 w2 t2 => H M2 Q k O2 hQ2 ⟨⟨k0, k1⟩, hkp, Or.inr hno⟩ hso (by rw [w2]; exact hw1) (by rw [t2]; exact ht1)
      -- the rows of the page
      refine q_upto (P := fun r => (∀ q, g_bf O 0 k ≤ q → q < r → p_srow M e e' c q q) → g_bf O 0 k ≤ r → b19_95 d h F c (0 + 3 * e' + c) r k M1) (a := g_bf O 0 k) (b := O 0 k) (by omega) (fun hall _ => ?_) (fun r r0 r1 ihr hall _ => ?_) (fun q a b => by omega) (Int.le_refl _)
      · refine w19_95 hS ⟨⟨by omega, by omega⟩, fun q => by rw [o43] at q; omega, fun _ => ⟨fun q => by omega, fun _ => ⟨hc, ⟨by omega, by omega⟩, ?_⟩, fun q => by omega⟩⟩
        have e44 : M1 44 (0 + 3 * e' + c) k - (if k ≤ 0 then 0 else M1 44 (0 + 3 * e' + c) (k - 1)) = O 1 k - g_bf O 1 k := by
          rw [o44 k k0 (by omega)]
          unfold g_bf
          by_cases kz : k ≤ 0
          · rw [if_pos kz, if_pos kz]
          · rw [if_neg kz, if_neg kz, o44 (k - 1) (by omega) (by omega)]; rfl
        have b44 : 0 < k → 0 ≤ M1 44 (0 + 3 * e' + c) (k - 1) ∧ M1 44 (0 + 3 * e' + c) (k - 1) ≤ 4 := fun kz => by
          have ok2 := ok.2
          unfold g_bf at ok2
          rw [if_neg (by omega)] at ok2
          rw [o44 (k - 1) (by omega) (by omega)]
          exact ⟨ok2.1, Int.le_trans ok2.2.1 ok2.2.2⟩
        refine t86_1 hS ⟨k0, by omega⟩ ⟨by rw [o44 k k0 (by omega)]; omega, b44⟩ ?_
        rw [e44, o43, y7]
        have hcc := hso.1
        refine t67 hS hT hM1 hQ ⟨k0, by omega⟩ hso.2.1 (g_some_x hso) (by rw [hw1]; exact ⟨k0, by omega⟩) (by rw [ht1]; have := hso.2.2.2.2; omega) (fun hcan M2 O2 hQ2 w2 t2 => ⟨fun q => absurd q (by decide), fun _ => ⟨⟨by omega, by omega⟩, ?_⟩⟩) (fun hno M2 O2 hQ2 w2 t2 => ⟨fun _ => fin (fun z => hno z.2) M2 (fun k m s q1 q2 => by rw [O2 k m s q1 q2]; exact O1 k m s q1 q2) hQ2 w2 t2, fun q => absurd rfl q⟩)
        have ss := g_some_s hT hso hcan
        have hcl : ∀ j q, q < k → g_add T Q k (O 0 k) (O 1 k - g_bf O 1 k) j q = Q j q := fun j q hq => g_ap_o (by omega)
        have ih' := ih (k + 1) (g_add T Q k (O 0 k) (O 1 k - g_bf O 1 k)) M2 (by omega) (by omega) (Or.inr (by omega)) (fun k m s q1 q2 => by rw [O2 k m s q1 q2]; exact O1 k m s q1 q2) hQ2 (fun q q0 q1 => ?_) ss.1 (by rw [w2, hw1]) (by rw [t2, ht1, ss.2.1])
        · have eb : g_bf O 0 (k + 1) = O 0 k := g_bf_s k0
          rw [eb] at ih'
          exact ih'
        · by_cases eq : q = k
          · subst eq
            exact ⟨(g_kp_c hcl (Int.le_refl _)).mpr ⟨fun r a b => hall r a b, hcan⟩, g_add_pg⟩
          · have := hkp q q0 (by omega)
            exact ⟨(g_kp_c hcl (by omega)).mpr this.1, g_pg_c hcl (by omega) this.2⟩
      · refine w19_95 hS ⟨⟨by omega, by omega⟩, fun _ => ⟨fun q => by omega, fun _ => ⟨fun q => by omega, fun _ => ?_, fun q => by omega⟩, fun q => by omega⟩, fun q => by rw [o43] at q; omega⟩
        rw [y7, y8]
        refine t30 hS hc ⟨by omega, by omega⟩ ⟨by omega, by omega⟩ (fun hr => by
          rw [O1 _ _ _ (by omega) (by omega)] at hr
          rw [O1 _ _ _ (by omega) (by omega)]
          exact hit r (by omega) (by have := hM.2.2.2.1; omega)) (fun hs => ⟨fun q => absurd q (by decide), fun _ => ⟨⟨by omega, by omega⟩, ihr (fun q q0 q1 => ?_) (by omega)⟩⟩) (fun hs => ⟨fun _ => fin (fun z => hs ((sr r).mpr (z.1 r r0 r1))) M1 O1 hQ rfl rfl, fun q => absurd rfl q⟩)
        by_cases eq : q = r
        · rw [eq]; exact (sr r).mp hs
        · exact hall q q0 (by omega)
  have e0 : g_bf O 0 0 = 0 := by unfold g_bf; rw [if_pos (Int.le_refl _)]
  have l0 := loop wo.toNat 0 P M (by omega) (Int.le_refl _) (Or.inl rfl) (fun _ _ _ _ _ => rfl) hP (fun q a b => by omega) (g_some_0 hT) hw0.1 (by rw [hw0.2]; rfl)
  rw [e0] at l0
  exact l0
/-- what there is to keep: not all of it when the measures or the first page are others -/
def g_keepP (T O : pT) (same : Int → Prop) (wo : Int) (on : Prop) (P : pT) (c : Int) : Prop := (on ∧ g_kept T O same wo P c) ∨ (¬ on ∧ c = 0)
theorem t19 {d : Nat} {h : qH} (hS : qSe h) {T P : pT} {c e : Int} {M : qM} {F : qM → Prop} (hT : g_tab T) (hc : 0 ≤ c ∧ c < 3) (he : 0 ≤ e) (h7 : M 2 0 7 = e + 1) (hM : g_cM T (1 + 3 * e + c) M) (hP : g_cP P 0 (0 + 3 * e + c) M) (hw0 : M 8 (0 + 3 * e + c) 2 = 0 ∧ M 8 (0 + 3 * e + c) 3 = 0)
    (hit : ∀ r, 0 ≤ r → r < T 8 0 → 0 ≤ M 48 (1 + 3 * e + c) r ∧ M 48 (1 + 3 * e + c) r < 10)
    (H0 : M 2 0 8 = 0 → F M)
    (h8 : M 2 0 8 = 0 ∨ ∃ e' O wo co, (0 ≤ e' ∧ e ≠ e') ∧ M 2 0 8 = e' + 1 ∧ g_cP O co (0 + 3 * e' + c) M ∧ M 8 (0 + 3 * e' + c) 2 = wo ∧ g_old O wo ∧ wo ≤ co ∧ ∀ M' P' c', fr67 (0 + 3 * e + c) M M' → g_cP P' c' (0 + 3 * e + c) M' → g_keepP T O (fun r => p_srow M e e' c r r) wo (M 3 e' 0 = M 3 e 0 ∧ M 3 e' 1 = M 3 e 1 ∧ M 8 (0 + 3 * e' + c) 0 = M 8 (0 + 3 * e + c) 0) P' c' → g_some T P' c' → M' 8 (0 + 3 * e + c) 2 = c' → M' 8 (0 + 3 * e + c) 3 = p_sum (g_kc T P') c' → F M') : e19 (d + 4) h c M F := by
  rcases h8 with h8 | ⟨e', O, wo, co, he', h8, hO, hwo, hold, hco, H⟩
  · exact w19 hS ⟨fun _ => H0 h8, fun q => by omega, fun q => by omega⟩
  · have y7 : M 2 0 7 - 1 = e := by omega
    have y8 : M 2 0 8 - 1 = e' := by omega
    have same : fr67 (0 + 3 * e + c) M M := fun _ _ _ _ _ => rfl
    have no : ¬ (M 3 e' 0 = M 3 e 0 ∧ M 3 e' 1 = M 3 e 1 ∧ M 8 (0 + 3 * e' + c) 0 = M 8 (0 + 3 * e + c) 0) → F M := fun k => H M P 0 same hP (Or.inr ⟨k, rfl⟩) (g_some_0 hT) hw0.1 (by rw [hw0.2]; rfl)
    refine w19 hS ⟨fun q => by omega, fun _ => ⟨fun q => by omega, fun _ => ⟨fun q => by omega, fun _ => ?_, fun q => by omega⟩, fun q => by omega⟩, fun q => by omega⟩
    rw [y7, y8]
    refine ⟨fun k1 => ⟨fun q => by omega, fun _ => ⟨fun q => by omega, fun _ => ⟨fun k2 => ⟨fun q => by omega, fun _ => ⟨hc, fun q => by omega, fun _ => ⟨hc, fun k3 => ⟨fun q => by omega, fun _ => ⟨hc, ?_⟩, fun q => by omega⟩, fun k3 => no (fun z => k3 z.2.2)⟩, fun q => by omega⟩, fun q => by omega⟩, fun k2 => no (fun z => k2 z.2.1)⟩, fun q => by omega⟩, fun q => by omega⟩, fun k1 => no (fun z => k1 z.1)⟩
    exact t19_84 hS hT hc ⟨he, he'.1, he'.2⟩ h7 h8 hM hP hw0 hO hwo hold hco hit (fun M' P' c' a1 a2 a3 a4 a5 a6 => H M' P' c' a1 a2 (Or.inl ⟨⟨k1, k2, k3⟩, a3⟩) a4 a5 a6)
