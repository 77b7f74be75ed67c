/-! ===== labels: in the book, twice in the draft ===== -/
theorem q_and_p {v k : Int} (hv : 0 ≤ v ∧ v < 65536) (hk : 0 ≤ k ∧ k ≤ 15) : qAnd v ((1 : Int) * 2 ^ k.toNat) = 0 ↔ ¬ q_bs v k := by
  have e : (1 : Int) * 2 ^ k.toNat = ((2 ^ k.toNat : Nat) : Int) := by rw [Int.one_mul]; simp
  have h1 : 2 ^ k.toNat ≤ 2 ^ 15 := Nat.pow_le_pow_right (by decide) (by omega)
  have h := q_and_n (x := v.toNat) (y := 2 ^ k.toNat) (by omega) (by omega)
  rw [show ((v.toNat : Nat) : Int) = v by omega] at h
  rw [e, h]
  refine ⟨fun hz hb => ?_, fun hb => ?_⟩
  · have h2 : (v.toNat &&& 2 ^ k.toNat).testBit k.toNat = true := by
      rw [Nat.testBit_and, Nat.testBit_two_pow]
      unfold q_bs at hb
      rw [hb]; simp
    rw [show v.toNat &&& 2 ^ k.toNat = 0 by omega, Nat.zero_testBit] at h2
    cases h2
  · refine Classical.byContradiction fun hne => ?_
    obtain ⟨i, hi⟩ := Nat.exists_testBit_of_ne_zero (show v.toNat &&& 2 ^ k.toNat ≠ 0 by omega)
    rw [Nat.testBit_and, Nat.testBit_two_pow, Bool.and_eq_true, decide_eq_true_eq] at hi
    exact hb (by unfold q_bs; rw [hi.2]; exact hi.1)
theorem t49 {d : Nat} {h : qH} (hS : qSe h) {it : Int} {M : qM} {f : Int → qM → Prop} (hn : 0 ≤ M 5 it 2 ∧ M 5 it 2 ≤ 20) (hb : ∀ w, 0 ≤ w → w < M 5 it 2 → 0 ≤ M 34 it w ∧ M 34 it w ≤ 9) (H : ∀ b, (0 ≤ b ∧ b < 65536) → (∀ v, 0 ≤ v → v ≤ 15 → (q_bs b v ↔ ∃ w, (0 ≤ w ∧ w < M 5 it 2) ∧ M 33 it w = 1 ∧ M 34 it w = v)) → f b M) : e49 (d + 1) h it M f := by
  refine w49 hS ?_
  refine q_upto (P := fun x => 0 ≤ x → ∀ b, (0 ≤ b ∧ b < 65536) → (∀ v, 0 ≤ v → v ≤ 15 → (q_bs b v ↔ ∃ w, (0 ≤ w ∧ w < x) ∧ M 33 it w = 1 ∧ M 34 it w = v)) → b49_4 d h f it b x M) (a := 0) (b := M 5 it 2) hn.1 (fun _ b b1 b2 => w49_4 hS ⟨fun q => by omega, fun _ => H b b1 b2⟩) (fun x x0 x1 ih _ b b1 b2 => w49_4 hS ⟨fun _ => ?_, fun q => by omega⟩) (Int.le_refl _) 0 (by decide) (fun v _ _ => ⟨fun z => absurd z q_bs_z, fun ⟨w, z, _⟩ => by omega⟩)
  have vb := hb x x0 x1
  have p := fun y => q_bs_p (k := M 34 it x) (x := y) ⟨vb.1, by omega⟩
  have p0 := p 0 (by decide)
  refine ⟨⟨x0, by omega⟩, fun _ => ⟨⟨x0, by omega⟩, by decide, vb.1, by omega, by omega⟩, fun y hy => ⟨⟨by omega, by omega⟩, ?_⟩⟩
  by_cases q : M 33 it x = 1
  · rw [if_pos q] at hy
    have o := fun v => q_bs_or (v := b) (w := y) (x := v) b1 (by rw [hy]; exact p0.1.1)
    refine ih (by omega) _ (o 0).1 (fun v v0 v1 => ?_)
    rw [(o v).2, b2 v v0 v1, hy, (p v v0).2]
    constructor
    · rintro (⟨w, z1, z2⟩ | z)
      · exact ⟨w, ⟨z1.1, by omega⟩, z2⟩
      · exact ⟨x, ⟨x0, by omega⟩, q, z.symm⟩
    · rintro ⟨w, z1, z2, z3⟩
      by_cases e : w = x
      · right; rw [← z3, e]
      · left; exact ⟨w, ⟨z1.1, by omega⟩, z2, z3⟩
  · rw [if_neg q] at hy
    have o := fun v => q_bs_or (v := b) (w := y) (x := v) b1 (by rw [hy]; decide)
    refine ih (by omega) _ (o 0).1 (fun v v0 v1 => ?_)
    rw [(o v).2, b2 v v0 v1, hy]
    constructor
    · rintro (⟨w, z1, z2⟩ | z)
      · exact ⟨w, ⟨z1.1, by omega⟩, z2⟩
      · exact absurd z q_bs_z
    · rintro ⟨w, z1, z2, z3⟩
      by_cases e : w = x
      · rw [e] at z2; exact absurd z2 q
      · left; exact ⟨w, ⟨z1.1, by omega⟩, z2, z3⟩
/-- a label in the first items of a chapter but one -/
def y_lb (B : pT) (c but i0 v : Int) : Prop := ∃ i w, (0 ≤ i ∧ i < i0) ∧ i ≠ but ∧ (0 ≤ w ∧ w < B 3 (10 * c + i)) ∧ B 4 (20 * (10 * c + i) + w) = 1 ∧ B 5 (20 * (10 * c + i) + w) = v
theorem t8 {d : Nat} {h : qH} (hS : qSe h) {c but : Int} {B : pT} {M : qM} {f : Int → qM → Prop} (hB : c_ok B) (hM : c_bk B M) (hc : 0 ≤ c ∧ c < 3) (H : ∀ b, (0 ≤ b ∧ b < 65536) → (∀ v, 0 ≤ v → v ≤ 15 → (q_bs b v ↔ y_lb B c but (B 0 c) v)) → f b M) : e8 (d + 2) h c but M f := by
  have n10 := (hB.1 c hc.1 hc.2).1
  have e1 := hM.1 c hc.1 hc.2
  refine w8 hS ?_
  refine q_upto (P := fun i => 0 ≤ i → ∀ b, (0 ≤ b ∧ b < 65536) → (∀ v, 0 ≤ v → v ≤ 15 → (q_bs b v ↔ y_lb B c but i v)) → b8_4 d h f c but b i M) (a := 0) (b := B 0 c) n10.1 (fun _ b b1 b2 => w8_4 hS ⟨fun q => by omega, fun _ => H b b1 b2⟩) (fun i i0 i1 ih _ b b1 b2 => w8_4 hS ⟨fun _ => ⟨fun ib => ?_, fun ib => ?_⟩, fun q => by omega⟩) (Int.le_refl _) 0 (by decide) (fun v _ _ => ⟨fun z => absurd z q_bs_z, fun ⟨i, w, z, _⟩ => by omega⟩)
  · have o := fun v => q_bs_or (v := b) (w := 0) (x := v) b1 (by decide)
    refine ⟨⟨by omega, by omega⟩, ih (by omega) _ (o 0).1 (fun v v0 v1 => ?_)⟩
    rw [(o v).2, b2 v v0 v1]
    constructor
    · rintro (⟨j, w, z1, z2⟩ | z)
      · exact ⟨j, w, ⟨z1.1, by omega⟩, z2⟩
      · exact absurd z q_bs_z
    · rintro ⟨j, w, z1, z2, z3⟩
      exact Or.inl ⟨j, w, ⟨z1.1, by omega⟩, z2, z3⟩
  · rw [show 1 + 10 * c + i = 1 + (10 * c + i) by omega]
    have n20 := hB.2.1 (10 * c + i)
    have e5 := (hM.2.1 (10 * c + i) (by omega) (by omega)).2.2.1
    have wd : ∀ w, 0 ≤ w → w < B 3 (10 * c + i) → M 33 (1 + (10 * c + i)) w = B 4 (20 * (10 * c + i) + w) ∧ M 34 (1 + (10 * c + i)) w = B 5 (20 * (10 * c + i) + w) := fun w w0 w1 => by
      have z := hM.2.2 (20 * (10 * c + i) + w) (by omega) (by omega)
      rw [show (20 * (10 * c + i) + w) / 20 = 10 * c + i by omega, show (20 * (10 * c + i) + w) % 20 = w by omega] at z
      exact ⟨z.1, z.2.1⟩
    refine ⟨⟨i0, by omega⟩, t49 hS (by rw [e5]; exact n20) (fun w w0 w1 => ?_) (fun b' b1' b2' => ?_)⟩
    · rw [(wd w w0 (by omega)).2]; exact hB.2.2.2.1 _
    · have o := fun v => q_bs_or (v := b) (w := b') (x := v) b1 b1'
      refine ⟨⟨by omega, by omega⟩, ih (by omega) _ (o 0).1 (fun v v0 v1 => ?_)⟩
      rw [(o v).2, b2 v v0 v1, b2' v v0 v1, e5]
      constructor
      · rintro (⟨j, w, z1, z2⟩ | ⟨w, z1, z2, z3⟩)
        · exact ⟨j, w, ⟨z1.1, by omega⟩, z2⟩
        · rw [(wd w z1.1 z1.2).1] at z2
          rw [(wd w z1.1 z1.2).2] at z3
          exact ⟨i, w, ⟨i0, by omega⟩, ib, z1, z2, z3⟩
      · rintro ⟨j, w, z1, z2, z3, z4, z5⟩
        by_cases e : j = i
        · subst e
          exact Or.inr ⟨w, z3, by rw [(wd w z3.1 z3.2).1]; exact z4, by rw [(wd w z3.1 z3.2).2]; exact z5⟩
        · exact Or.inl ⟨j, w, ⟨z1.1, by omega⟩, z2, z3, z4, z5⟩
/-- word w of the draft is a label that is among the words below k of the book (but for an item), or among the draft's first o -/
def y_hit (B : pT) (bx : Int) (K V : Int → Int) (w k o : Int) : Prop := K w = 1 ∧ ((∃ y, (0 ≤ y ∧ y < k) ∧ c_there B y ∧ y / 20 ≠ bx ∧ B 4 y = 1 ∧ B 5 y = V w) ∨ ∃ u, (0 ≤ u ∧ u < o) ∧ K u = 1 ∧ V u = V w)
def y_two (B : pT) (bx : Int) (K V : Int → Int) (n : Int) : Prop := ∃ w, (0 ≤ w ∧ w < n) ∧ y_hit B bx K V w 600 w
def y_bx (c but : Int) : Int := if but = -1 then -1 else 10 * c + but
theorem y_two_s {B : pT} {bx : Int} {K V : Int → Int} {n : Int} (hn : 0 ≤ n) : y_two B bx K V (n + 1) ↔ y_two B bx K V n ∨ y_hit B bx K V n 600 n := by
  constructor
  · rintro ⟨w, z1, z2⟩
    by_cases e : w = n
    · rw [e] at z2; exact Or.inr z2
    · exact Or.inl ⟨w, ⟨z1.1, by omega⟩, z2⟩
  · rintro (⟨w, z1, z2⟩ | z)
    · exact ⟨w, ⟨z1.1, by omega⟩, z2⟩
    · exact ⟨n, ⟨hn, by omega⟩, z⟩
theorem y_two_0 {B : pT} {bx : Int} {K V : Int → Int} : ¬ y_two B bx K V 0 := fun ⟨w, z, _⟩ => by omega
theorem y_two_cg {B : pT} {bx : Int} {K V K' V' : Int → Int} {n : Int} (h : ∀ w, 0 ≤ w → w < n → K' w = K w ∧ V' w = V w) (z : y_two B bx K V n) : y_two B bx K' V' n := by
  obtain ⟨w, z1, z2, z3⟩ := z
  have hw := h w z1.1 z1.2
  refine ⟨w, z1, by rw [hw.1]; exact z2, ?_⟩
  rw [hw.2]
  rcases z3 with z3 | ⟨u, z3, z4, z5⟩
  · exact Or.inl z3
  · have hu := h u z3.1 (by omega)
    exact Or.inr ⟨u, z3, by rw [hu.1]; exact z4, by rw [hu.2]; exact z5⟩
theorem y_lb_in {B : pT} {c but v : Int} (hB : c_ok B) (hb : -1 ≤ but ∧ but < 10) : (∃ c', (0 ≤ c' ∧ c' < 3) ∧ y_lb B c' (if c' = c then but else -1) (B 0 c') v) ↔ ∃ y, (0 ≤ y ∧ y < 600) ∧ c_there B y ∧ y / 20 ≠ y_bx c but ∧ B 4 y = 1 ∧ B 5 y = v := by
  unfold y_bx
  constructor
  · rintro ⟨c', z0, i, w, z1, z2, z3, z4, z5⟩
    have n10 := (hB.1 c' z0.1 z0.2).1
    have n20 := hB.2.1 (10 * c' + i)
    refine ⟨20 * (10 * c' + i) + w, ⟨by omega, by omega⟩, ?_, ?_, z4, z5⟩
    · unfold c_there
      rw [show (20 * (10 * c' + i) + w) / 20 = 10 * c' + i by omega, show (20 * (10 * c' + i) + w) % 20 = w by omega, show (10 * c' + i) % 10 = i by omega, show (20 * (10 * c' + i) + w) / 200 = c' by omega]
      exact ⟨z1.2, z3.2⟩
    · rw [show (20 * (10 * c' + i) + w) / 20 = 10 * c' + i by omega]
      by_cases e : c' = c
      · rw [if_pos e] at z2
        split <;> omega
      · split <;> omega
  · rintro ⟨y, z1, z2, z3, z4, z5⟩
    obtain ⟨t1, t2⟩ := z2
    have ey : 20 * (10 * (y / 200) + y / 20 % 10) + y % 20 = y := by omega
    have ex : 10 * (y / 200) + y / 20 % 10 = y / 20 := by omega
    refine ⟨y / 200, ⟨by omega, by omega⟩, y / 20 % 10, y % 20, ⟨by omega, t1⟩, ?_, ?_, ?_, ?_⟩
    · by_cases e : y / 200 = c
      · rw [if_pos e]
        by_cases q : but = -1
        · omega
        · rw [if_neg q] at z3; omega
      · rw [if_neg e]; omega
    · rw [ex]; exact ⟨by omega, t2⟩
    · rw [ey]; exact z4
    · rw [ey]; exact z5
theorem t142 {d : Nat} {h : qH} (hS : qSe h) {c but n : Int} {B : pT} {M : qM} {f : Int → qM → Prop} (hB : c_ok B) (hM : c_bk B M) (hc : 0 ≤ c ∧ c < 3) (hbt : -1 ≤ but ∧ but < 10) (hn : M 5 0 2 = n) (hn2 : 0 ≤ n ∧ n ≤ 20) (hv : ∀ w, 0 ≤ w → w < n → 0 ≤ M 34 0 w ∧ M 34 0 w ≤ 9) (H1 : y_two B (y_bx c but) (M 33 0) (M 34 0) n → f 1 M) (H0 : ¬ y_two B (y_bx c but) (M 33 0) (M 34 0) n → f 0 M) : e142 (d + 3) h c but M f := by
  have two : ∀ b, (0 ≤ b ∧ b < 65536) → (∀ v, 0 ≤ v → v ≤ 15 → (q_bs b v ↔ ∃ y, (0 ≤ y ∧ y < 600) ∧ c_there B y ∧ y / 20 ≠ y_bx c but ∧ B 4 y = 1 ∧ B 5 y = v)) → ∀ u1 u2 u5 : qV, b142_44 d h f u1 u2 b 0 u5 M := by
    intro b0 b01 b02 u1 u2 u5
    refine q_upto (P := fun w => 0 ≤ w → ¬ y_two B (y_bx c but) (M 33 0) (M 34 0) w → ∀ b, (0 ≤ b ∧ b < 65536) → (∀ v, 0 ≤ v → v ≤ 15 → (q_bs b v ↔ (∃ y, (0 ≤ y ∧ y < 600) ∧ c_there B y ∧ y / 20 ≠ y_bx c but ∧ B 4 y = 1 ∧ B 5 y = v) ∨ ∃ u, (0 ≤ u ∧ u < w) ∧ M 33 0 u = 1 ∧ M 34 0 u = v)) → ∀ u5 : qV, b142_44 d h f u1 u2 b w u5 M) (a := 0) (b := n) hn2.1 (fun _ no b b1 b2 u5 => w142_44 hS ⟨fun q => by omega, fun _ => H0 no⟩) (fun w w0 w1 ih _ no b b1 b2 u5 => w142_44 hS ⟨fun _ => ⟨⟨w0, by omega⟩, fun q => ?_, fun q => ?_⟩, fun q => by omega⟩) (Int.le_refl _) y_two_0 b0 b01 (fun v v0 v1 => by rw [b02 v v0 v1]; exact ⟨Or.inl, fun z => z.elim id (fun ⟨u, z, _⟩ => by omega)⟩) u5
    · have vb := hv w w0 w1
      have p := fun y => q_bs_p (k := M 34 0 w) (x := y) ⟨vb.1, by omega⟩
      have p0 := p 0 (by decide)
      have an := q_and_p (v := b) (k := M 34 0 w) b1 ⟨vb.1, by omega⟩
      refine ⟨⟨w0, by omega⟩, ⟨by decide, vb.1, by omega, by omega⟩, fun z => ⟨⟨by omega, by omega⟩, ?_⟩, fun z => ?_⟩
      · have nb := fun k => an.mp z ((b2 _ vb.1 (by omega)).mpr k)
        have o := fun v => q_bs_or (v := b) (w := (1 : Int) * 2 ^ (M 34 0 w).toNat) (x := v) b1 p0.1.1
        refine ih (by omega) (fun k => ?_) _ (o 0).1 (fun v v0 v1 => ?_) _
        · rcases (y_two_s w0).mp k with k | ⟨_, k⟩
          · exact no k
          · exact nb k
        · rw [(o v).2, b2 v v0 v1, (p v v0).2]
          constructor
          · rintro ((k | ⟨u, k1, k2⟩) | k)
            · exact Or.inl k
            · exact Or.inr ⟨u, ⟨k1.1, by omega⟩, k2⟩
            · exact Or.inr ⟨w, ⟨w0, by omega⟩, q, k.symm⟩
          · rintro (k | ⟨u, k1, k2, k3⟩)
            · exact Or.inl (Or.inl k)
            · by_cases e : u = w
              · rw [e] at k3; exact Or.inr k3.symm
              · exact Or.inl (Or.inr ⟨u, ⟨k1.1, by omega⟩, k2, k3⟩)
      · have yb := Classical.byContradiction fun k => z (an.mpr k)
        refine H1 ⟨w, ⟨w0, w1⟩, q, (b2 _ vb.1 (by omega)).mp yb⟩
    · refine ⟨⟨by omega, by omega⟩, ih (by omega) (fun k => ?_) b b1 (fun v v0 v1 => ?_) u5⟩
      · rcases (y_two_s w0).mp k with k | ⟨k, _⟩
        · exact no k
        · exact q k
      · rw [b2 v v0 v1]
        constructor
        · rintro (k | ⟨u, k1, k2⟩)
          · exact Or.inl k
          · exact Or.inr ⟨u, ⟨k1.1, by omega⟩, k2⟩
        · rintro (k | ⟨u, k1, k2, k3⟩)
          · exact Or.inl k
          · by_cases e : u = w
            · rw [e] at k2; exact absurd k2 q
            · exact Or.inr ⟨u, ⟨k1.1, by omega⟩, k2, k3⟩
  refine w142 hS ?_
  refine q_upto (P := fun c' => 0 ≤ c' → ∀ b, (0 ≤ b ∧ b < 65536) → (∀ v, 0 ≤ v → v ≤ 15 → (q_bs b v ↔ ∃ c2, (0 ≤ c2 ∧ c2 < c') ∧ y_lb B c2 (if c2 = c then but else -1) (B 0 c2) v)) → b142_5 d h f c but b c' q_u M) (a := 0) (b := 3) (by decide) (fun _ b b1 b2 => w142_5 hS ⟨fun q => by omega, fun _ => two b b1 (fun v v0 v1 => by rw [b2 v v0 v1]; exact y_lb_in hB hbt) _ _ _⟩) (fun c' c0 c1 ih _ b b1 b2 => w142_5 hS ⟨fun _ => ⟨⟨c0, c1⟩, fun x hx => ?_⟩, fun q => by omega⟩) (Int.le_refl _) 0 (by decide) (fun v _ _ => ⟨fun z => absurd z q_bs_z, fun ⟨i, z, _⟩ => by omega⟩)
  refine t8 hS hB hM ⟨c0, c1⟩ (fun b' b1' b2' => ⟨⟨by omega, by omega⟩, ?_⟩)
  have o := fun v => q_bs_or (v := b) (w := b') (x := v) b1 b1'
  refine ih (by omega) _ (o 0).1 (fun v v0 v1 => ?_)
  rw [(o v).2, b2 v v0 v1, b2' v v0 v1, hx]
  constructor
  · rintro (⟨c2, z1, z2⟩ | z)
    · exact ⟨c2, ⟨z1.1, by omega⟩, z2⟩
    · exact ⟨c', ⟨c0, by omega⟩, z⟩
  · rintro ⟨c2, z1, z2⟩
    by_cases e : c2 = c'
    · rw [e] at z2; exact Or.inr z2
    · exact Or.inl ⟨c2, ⟨z1.1, by omega⟩, z2⟩
theorem c_there_n {B : pT} {y : Int} (hB : c_ok B) (hB2 : c_ok2 B) (hy : 0 ≤ y ∧ y < 600) : c_there B y ↔ y % 20 < B 3 (y / 20) := by
  refine ⟨fun z => z.2, fun z => ⟨Classical.byContradiction fun k => ?_, z⟩⟩
  have := (hB2 (y / 20) (by omega) (by omega) (by rw [show y / 20 / 10 = y / 200 by omega]; exact k)).2
  omega
