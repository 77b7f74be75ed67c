/-! ===== running heads ===== -/
def h_hd (A : pA) (r : Int) : Prop := A 0 (p_ri A r) 0 ≠ 0
def h_lp (A : pA) (a b v : Int) : Prop := (v = -1 ∧ ∀ r, a ≤ r → r < b → ¬ h_hd A r) ∨ ((a ≤ v ∧ v < b) ∧ h_hd A v ∧ ∀ r, v < r → r < b → ¬ h_hd A r)
def h_fp (A : pA) (a b v : Int) : Prop := (v = -1 ∧ ∀ r, a ≤ r → r < b → ¬ h_hd A r) ∨ ((a ≤ v ∧ v < b) ∧ h_hd A v ∧ ∀ r, a ≤ r → r < v → ¬ h_hd A r)
theorem h_lp_u {A : pA} {a b v w : Int} (h : h_lp A a b v) (h' : h_lp A a b w) : v = w := by
  rcases h with ⟨h1, h2⟩ | ⟨h1, h2, h3⟩ <;> rcases h' with ⟨k1, k2⟩ | ⟨k1, k2, k3⟩
  · omega
  · exact absurd k2 (h2 w k1.1 k1.2)
  · exact absurd h2 (k2 v h1.1 h1.2)
  · by_cases q : v < w
    · exact absurd k2 (h3 w q k1.2)
    · by_cases q2 : w < v
      · exact absurd h2 (k3 v q2 h1.2)
      · omega
theorem h_fp_u {A : pA} {a b v w : Int} (h : h_fp A a b v) (h' : h_fp A a b w) : v = w := by
  rcases h with ⟨h1, h2⟩ | ⟨h1, h2, h3⟩ <;> rcases h' with ⟨k1, k2⟩ | ⟨k1, k2, k3⟩
  · omega
  · exact absurd k2 (h2 w k1.1 k1.2)
  · exact absurd h2 (k2 v h1.1 h1.2)
  · by_cases q : v < w
    · exact absurd h2 (k3 v h1.1 q)
    · by_cases q2 : w < v
      · exact absurd k2 (h3 w k1.1 q2)
      · omega
theorem h_lp_s {A : pA} {a b v : Int} (h : h_lp A a b v) : (h_hd A b → a ≤ b → h_lp A a (b + 1) b) ∧ (¬ h_hd A b → h_lp A a (b + 1) v) := by
  refine ⟨fun q ab => Or.inr ⟨by omega, q, fun r a b => by omega⟩, fun q => ?_⟩
  rcases h with ⟨h1, h2⟩ | ⟨h1, h2, h3⟩
  · refine Or.inl ⟨h1, fun r r0 r1 => ?_⟩
    by_cases e : r = b
    · rw [e]; exact q
    · exact h2 r r0 (by omega)
  · refine Or.inr ⟨by omega, h2, fun r r0 r1 => ?_⟩
    by_cases e : r = b
    · rw [e]; exact q
    · exact h3 r r0 (by omega)
theorem h_fp_s {A : pA} {a b v : Int} (ha : 0 ≤ a) (h : h_fp A a b v) : (h_hd A b → a ≤ b → v = -1 → h_fp A a (b + 1) b) ∧ (h_hd A b → v ≠ -1 → h_fp A a (b + 1) v) ∧ (¬ h_hd A b → h_fp A a (b + 1) v) := by
  rcases h with ⟨h1, h2⟩ | ⟨h1, h2, h3⟩
  · refine ⟨fun q ab _ => Or.inr ⟨by omega, q, fun r a b => h2 r a (by omega)⟩, fun _ z => absurd h1 z, fun q => Or.inl ⟨h1, fun r r0 r1 => ?_⟩⟩
    by_cases e : r = b
    · rw [e]; exact q
    · exact h2 r r0 (by omega)
  · exact ⟨fun _ _ z => by omega, fun _ _ => Or.inr ⟨by omega, h2, h3⟩, fun _ => Or.inr ⟨by omega, h2, h3⟩⟩
def h_it (A : pA) (v : Int) : Int := if v = -1 then -1 else p_ri A v
theorem t28 {d : Nat} {h : qH} (hS : qSe h) {A : pA} {P : pT} {c e k p il cnt ct fi : Int} {M : qM} {F : Int → qM → Prop} (hA : p_okA A cnt) (hc : 0 ≤ c ∧ c < 3) (hp : p = fi + k) (hk : 0 ≤ k ∧ k < ct ∧ ct ≤ 86) (hfi : 0 ≤ fi ∧ fi ≤ 1000) (hR : p_rows A cnt (1 + 3 * e + c) M) (hP : g_cP P ct (0 + 3 * e + c) M) (h8 : M 8 (0 + 3 * e + c) 0 = fi) (hb : 0 ≤ g_bf P 0 k ∧ g_bf P 0 k ≤ P 0 k ∧ P 0 k ≤ p_SR A cnt)
    (H : ∀ f l q, h_fp A (g_bf P 0 k) (P 0 k) f → h_lp A (g_bf P 0 k) (P 0 k) l → h_lp A 0 (g_bf P 0 k) q → F (if f = -1 then h_it A q else if il = 0 then h_it A f else h_it A l) M) : e28 (d + 2) h e c p il M F := by
  have bm := g_bf_at hP (k := k) ⟨hk.1, by omega⟩
  have h70 := hA.2.2.2.2
  have nd : ∀ r, 0 ≤ r → r < p_SR A cnt → (M 51 (1 + 3 * e + c) r ≤ 0 ↔ ¬ h_hd A r) ∧ M 48 (1 + 3 * e + c) r = p_ri A r := fun r r0 r1 => by
    have row := hR.1.2.1 r r0 r1
    have ri := (p_row_in hA ⟨r0, r1⟩).1
    refine ⟨?_, row.1⟩
    rw [row.2.2.2.1]
    unfold p_nd h_hd
    rcases (hA.2.1 _ ri.1 ri.2).2 with z | z
    · rw [if_neg (by omega)]
      exact ⟨fun y => by omega, fun y => absurd (show A 0 (p_ri A r) 0 ≠ 0 by omega) y⟩
    · rw [if_pos z.1]
      exact ⟨fun _ y => y z.1, fun _ => Int.le_refl _⟩
  refine w28 hS ⟨hc, hc, ?_⟩
  rw [h8, show p - fi = k by omega]
  refine ⟨⟨by omega, by omega⟩, hc, t82 hS ⟨by omega, by omega⟩ ?_⟩
  rw [bm.1]
  -- behind the page's rows
  have back : ∀ f l (u0 u1 u2 u3 u5 u6 : qV), h_fp A (g_bf P 0 k) (P 0 k) f → h_lp A (g_bf P 0 k) (P 0 k) l → b28_94 d h F u0 u1 u2 u3 (1 + 3 * e + c) u5 u6 (if f = -1 then -1 else if il = 0 then f else l) (g_bf P 0 k - 1) M := by
    intro f l u0 u1 u2 u3 u5 u6 hf hl
    by_cases ef : f = -1
    · rw [if_pos ef]
      have main : b28_94 d h F u0 u1 u2 u3 (1 + 3 * e + c) u5 u6 (-1) (g_bf P 0 k - 1) M := by
        refine q_dnto (P := fun z => -1 ≤ z → (∀ r, z < r → r < g_bf P 0 k → ¬ h_hd A r) → b28_94 d h F u0 u1 u2 u3 (1 + 3 * e + c) u5 u6 (-1) z M) (a := -1) (b := g_bf P 0 k - 1) (by omega) (fun _ no => ?_) (fun z z0 z1 ih _ no => ?_) (by omega) (fun r a b => by omega)
        · refine w28_94 hS ⟨fun _ => ⟨fun q => absurd (show (-1 : Int) < 0 by decide) q, fun y hy => ?_⟩, fun q => absurd (show (-1 : Int) < 0 by decide) q⟩
          rw [if_pos (by decide)] at hy
          have := H f l (-1) hf hl (Or.inl ⟨rfl, fun r a b => no r (by omega) b⟩)
          rw [if_pos ef] at this
          rw [hy]; exact this
        · have n := nd z (by omega) (by omega)
          refine w28_94 hS ⟨fun q => by omega, fun _ => ⟨fun _ => ⟨⟨by omega, by omega⟩, fun y hy => ⟨⟨by omega, by omega⟩, ?_⟩⟩, fun q => absurd (show (-1 : Int) < 0 by decide) q⟩⟩
          by_cases q : h_hd A z
          · rw [if_neg (fun z2 => n.1.mp z2 q)] at hy
            rw [hy]
            have fin : ∀ z', b28_94 d h F u0 u1 u2 u3 (1 + 3 * e + c) u5 u6 z z' M := fun z' => by
              have v := H f l z hf hl (Or.inr ⟨by omega, q, no⟩)
              rw [if_pos ef] at v
              have e1 : h_it A z = M 48 (1 + 3 * e + c) z := by unfold h_it; rw [if_neg (by omega), n.2]
              rw [e1] at v
              exact w28_94 hS ⟨fun _ => ⟨fun _ => ⟨by omega, by omega⟩, fun y hy => by rw [hy, if_neg (by omega)]; exact v⟩, fun _ => ⟨fun z2 => by omega, fun _ => ⟨fun _ => ⟨by omega, by omega⟩, fun y hy => by rw [hy, if_neg (by omega)]; exact v⟩⟩⟩
            exact fin _
          · rw [if_pos (n.1.mpr q)] at hy
            rw [hy, show z + (-1) = z - 1 by omega]
            refine ih (by omega) (fun r a b => ?_)
            by_cases er : r = z
            · rw [er]; exact q
            · exact no r (by omega) b
      exact main
    · rw [if_neg ef]
      obtain ⟨qv, hq⟩ : ∃ qv, h_lp A 0 (g_bf P 0 k) qv := by
        refine q_upto (P := fun b => 0 ≤ b → (∃ v, h_lp A 0 b v) → ∃ v, h_lp A 0 (g_bf P 0 k) v) (a := 0) (b := g_bf P 0 k) hb.1 (fun _ q => q) (fun b b0 b1 ih _ ⟨v, hv⟩ => ih (by omega) ?_) (Int.le_refl _) ⟨-1, Or.inl ⟨rfl, fun r a b => by omega⟩⟩
        by_cases q : h_hd A b
        · exact ⟨b, (h_lp_s hv).1 q b0⟩
        · exact ⟨v, (h_lp_s hv).2 q⟩
      have v := H f l qv hf hl hq
      rw [if_neg ef] at v
      have hfr : (g_bf P 0 k ≤ f ∧ f < P 0 k) ∧ h_hd A f := by
        rcases hf with hf | hf
        · exact absurd hf.1 ef
        · exact ⟨hf.1, hf.2.1⟩
      have hlr : g_bf P 0 k ≤ l ∧ l < P 0 k := by
        rcases hl with hl | hl
        · exact absurd hfr.2 (hl.2 f hfr.1.1 hfr.1.2)
        · exact hl.1
      generalize hz : (if il = 0 then f else l) = z
      have zb : g_bf P 0 k ≤ z ∧ z < P 0 k := by rw [← hz]; split <;> omega
      have e1 : (if il = 0 then h_it A f else h_it A l) = M 48 (1 + 3 * e + c) z := by
        rw [(nd z (by omega) (by omega)).2, ← hz]
        unfold h_it
        by_cases q : il = 0
        · rw [if_pos q, if_pos q, if_neg (by omega)]
        · rw [if_neg q, if_neg q, if_neg (by omega)]
      rw [e1] at v
      exact w28_94 hS ⟨fun _ => ⟨fun _ => ⟨by omega, by omega⟩, fun y hy => by rw [hy, if_neg (by omega)]; exact v⟩, fun _ => ⟨fun z2 => by omega, fun _ => ⟨fun _ => ⟨by omega, by omega⟩, fun y hy => by rw [hy, if_neg (by omega)]; exact v⟩⟩⟩
  have z0 : (-1 : Int) = (if (-1 : Int) = -1 then -1 else if il = 0 then -1 else -1) := rfl
  have go := q_upto (P := fun r => g_bf P 0 k ≤ r → ∀ f l, h_fp A (g_bf P 0 k) r f → h_lp A (g_bf P 0 k) r l → b28_41 d h F e c (.inl p) il (1 + 3 * e + c) k (g_bf P 0 k) (if f = -1 then -1 else if il = 0 then f else l) r M) (a := g_bf P 0 k) (b := P 0 k) hb.2.1 (fun _ f l hf hl => w28_41 hS ⟨hc, ⟨by omega, by omega⟩, fun q => by rw [(hP.2 k hk.1 hk.2.1).1] at q; omega, fun _ => ⟨⟨by omega, by omega⟩, back f l _ _ _ _ _ _ hf hl⟩⟩) (fun r r0 r1 ih _ f l hf hl => ?_) (Int.le_refl _) (-1) (-1) (Or.inl ⟨rfl, fun r a b => by omega⟩) (Or.inl ⟨rfl, fun r a b => by omega⟩)
  · exact go
  · have n := nd r (by omega) (by omega)
    have fl : f = -1 ↔ l = -1 := by
      rcases hf with hf | hf <;> rcases hl with hl | hl
      · exact ⟨fun _ => hl.1, fun _ => hf.1⟩
      · exact absurd hl.2.1 (hf.2 l hl.1.1 hl.1.2)
      · exact absurd hf.2.1 (hl.2 f hf.1.1 hf.1.2)
      · exact ⟨fun z => by have := hf.1; omega, fun z => by have := hl.1; omega⟩
    refine w28_41 hS ⟨hc, ⟨by omega, by omega⟩, fun _ => ⟨⟨by omega, by omega⟩, fun y hy => ⟨⟨by omega, by omega⟩, ?_⟩⟩, fun q => by rw [(hP.2 k hk.1 hk.2.1).1] at q; omega⟩
    by_cases q : h_hd A r
    · rw [if_neg (fun z => n.1.mp z q)] at hy
      by_cases ef : f = -1
      · have nx := ih (by omega) r r ((h_fp_s hb.1 hf).1 q r0 ef) ((h_lp_s hl).1 q r0)
        have ey : y = (if r = -1 then -1 else if il = 0 then r else r) := by
          rw [hy, if_pos ef, if_neg (show ¬ r = -1 by omega)]
          by_cases e0 : il = 0
          · rw [if_pos e0, if_pos (by decide), if_pos e0]
          · rw [if_neg e0, if_neg e0]
        rw [ey]; exact nx
      · have nx := ih (by omega) f r ((h_fp_s hb.1 hf).2.1 q ef) ((h_lp_s hl).1 q r0)
        have fr : g_bf P 0 k ≤ f := by
          rcases hf with hf | hf
          · exact absurd hf.1 ef
          · exact hf.1.1
        have ey : y = (if f = -1 then -1 else if il = 0 then f else r) := by
          rw [hy, if_neg ef, if_neg ef]
          by_cases e0 : il = 0
          · rw [if_pos e0, if_pos e0, if_neg (by omega), if_pos e0]
          · rw [if_neg e0, if_neg e0]
        rw [ey]; exact nx
    · rw [if_pos (n.1.mpr q)] at hy
      rw [hy]
      exact ih (by omega) f l ((h_fp_s hb.1 hf).2.2 q) ((h_lp_s hl).2 q)
