/-! ===== the model's comparing ===== -/
theorem t259 {d : Nat} {h : qH} (hS : qSe h) {y : Int} {M : qM} {F : Int → qM → Prop} (hy : 0 ≤ y ∧ y < 600) (H1 : M 68 0 (y / 20) = M 120 0 (y / 20) → F 1 M) (H0 : ¬ M 68 0 (y / 20) = M 120 0 (y / 20) → F 0 M) : e259 (d + 1) h y M F := by
  refine w259 hS ⟨hy.1, ⟨by omega, by omega⟩, hy.1, ⟨by omega, by omega⟩, fun z hz => ?_⟩
  by_cases q : M 68 0 (y / 20) = M 120 0 (y / 20)
  · rw [if_pos q] at hz; rw [hz]; exact ⟨Or.inr rfl, H1 q⟩
  · rw [if_neg q] at hz; rw [hz]; exact ⟨Or.inl rfl, H0 q⟩
def u_mrow (B : pT) (R : c_R) (M : qM) (c s s' : Int) : Prop := (M 88 0 s = M 121 0 s' ∧ M 90 0 s = M 122 0 s' ∧ M 91 0 s = M 123 0 s') ∧ M 68 0 (10 * c + M 88 0 s) = M 120 0 (10 * c + M 88 0 s) ∧ ∀ w, M 90 0 s ≤ w → w < M 91 0 s → c_told B R (200 * c + 20 * M 88 0 s + w) = M 124 0 (200 * c + 20 * M 88 0 s + w)
theorem t260 {d : Nat} {h : qH} (hS : qSe h) {B : pT} {R : c_R} {c p a a' n : Int} {M : qM} {F : Int → qM → Prop} (hB2 : c_ok2 B) (hbk : m_bk B M) (hpl : b_pl (c_K B) (c_G B R) M) (hG : ∀ y, 0 ≤ y → y < 600 → c_K B y ≠ 0 → 0 ≤ c_G B R y ∧ c_G B R y ≤ 1000) (hc : 0 ≤ c ∧ c < 3) (hp : 0 ≤ p ∧ p < 400) (e105 : M 105 0 p = c) (e106 : M 106 0 p = a) (e107 : M 107 0 p = n) (e129 : M 129 0 p = a') (ha : 0 ≤ a ∧ a + n ≤ 70 ∧ 0 ≤ n) (ha' : M 130 0 p = n → 0 ≤ a' ∧ a' + n ≤ 70) (hrow : ∀ r, a ≤ r → r < a + n → (0 ≤ M 88 0 (70 * c + r) ∧ M 88 0 (70 * c + r) < 10) ∧ (0 ≤ M 90 0 (70 * c + r) ∧ M 90 0 (70 * c + r) ≤ M 91 0 (70 * c + r) ∧ M 91 0 (70 * c + r) ≤ 20) ∧ ∀ w, M 90 0 (70 * c + r) ≤ w → w < M 91 0 (70 * c + r) → c_there B (200 * c + 20 * M 88 0 (70 * c + r) + w))
    (H1 : M 130 0 p = n → (∀ r, 0 ≤ r → r < n → u_mrow B R M c (70 * c + a + r) (70 * c + a' + r)) → F 1 M) (H0 : ¬ (M 130 0 p = n ∧ ∀ r, 0 ≤ r → r < n → u_mrow B R M c (70 * c + a + r) (70 * c + a' + r)) → F 0 M) : e260 (d + 5) h p M F := by
  have stop : ∀ r u5 u6 u7 u8, F 0 M → b260_31 d h F p c 0 r u5 u6 u7 u8 M := fun r u5 u6 u7 u8 no => w260_31 hS ⟨hp, fun _ => ⟨fun _ => ⟨Or.inl rfl, no⟩, fun y => absurd rfl y⟩, fun _ => ⟨Or.inl rfl, no⟩⟩
  have stop2 : ∀ r s w u6 u8, -1000 ≤ r → r ≤ 1000 → 0 ≤ s → s < 210 → F 0 M → b260_163 d h F p c 0 r s u6 w u8 M := fun r s w u6 u8 r0 r1 s0 s1 no => w260_163 hS ⟨⟨s0, s1⟩, fun _ => ⟨fun _ => ⟨⟨by omega, by omega⟩, stop _ _ _ _ _ no⟩, fun y => absurd rfl y⟩, fun _ => ⟨⟨by omega, by omega⟩, stop _ _ _ _ _ no⟩⟩
  refine w260 hS ⟨hp, hp, hp, fun x hx => ?_⟩
  rw [e105]
  rw [e107] at hx
  by_cases q : n = M 130 0 p
  · rw [if_pos q] at hx
    rw [hx]
    have a'b := ha' q.symm
    refine q_upto (P := fun r => 0 ≤ r → (∀ z, 0 ≤ z → z < r → u_mrow B R M c (70 * c + a + z) (70 * c + a' + z)) → ∀ u5 u6 u7 u8, b260_31 d h F p c 1 r u5 u6 u7 u8 M) (a := 0) (b := n) ha.2.2 (fun _ al u5 u6 u7 u8 => w260_31 hS ⟨hp, fun z => by rw [e107] at z; omega, fun _ => ⟨Or.inr rfl, H1 q.symm al⟩⟩) (fun r r0 r1 ih _ al u5 u6 u7 u8 => ?_) (Int.le_refl _) (fun z a b => by omega) _ _ _ _
    have no : ¬ u_mrow B R M c (70 * c + a + r) (70 * c + a' + r) → F 0 M := fun z => H0 (fun y => z (y.2 r r0 r1))
    have row := hrow (a + r) (by omega) (by omega)
    rw [show 70 * c + (a + r) = 70 * c + a + r by omega] at row
    refine w260_31 hS ⟨hp, fun _ => ⟨fun y => absurd y (by decide), fun _ => ?_⟩, fun z => by rw [e107] at z; omega⟩
    rw [e106, e129]
    have cut : ¬ u_mrow B R M c (70 * c + a + r) (70 * c + a' + r) → ∀ u6 w u8, (0 ≤ 70 * c + a + r ∧ 70 * c + a + r < 210) ∧ b260_163 d h F p c 0 r (70 * c + a + r) u6 w u8 M := fun z u6 w u8 => ⟨⟨by omega, by omega⟩, stop2 r _ w u6 u8 (by omega) (by omega) (by omega) (by omega) (no z)⟩
    refine ⟨⟨by omega, by omega⟩, hp, ⟨by omega, by omega⟩, ⟨by omega, by omega⟩, ⟨by omega, by omega⟩, hp, ⟨by omega, by omega⟩, ⟨by omega, by omega⟩, ⟨by omega, by omega⟩, ⟨by omega, by omega⟩, fun k1 => ⟨⟨by omega, by omega⟩, ⟨by omega, by omega⟩, fun k2 => ⟨⟨by omega, by omega⟩, ⟨by omega, by omega⟩, fun k3 => ⟨⟨by omega, by omega⟩, t158 hS hc row.1 (by omega) ?_⟩, fun k3 => cut (fun z => k3 z.1.2.2) _ _ _⟩, fun k2 => cut (fun z => k2 z.1.2.1) _ _ _⟩, fun k1 => cut (fun z => k1 z.1.1) _ _ _⟩
    have pid : p_id c (M 88 0 (70 * c + a + r)) 0 = 20 * (10 * c + M 88 0 (70 * c + a + r)) := by unfold p_id; omega
    rw [pid]
    have e20 : 20 * (10 * c + M 88 0 (70 * c + a + r)) / 20 = 10 * c + M 88 0 (70 * c + a + r) := by omega
    refine t259 hS ⟨by omega, by omega⟩ (fun st x hx => ⟨⟨by omega, by omega⟩, ?_⟩) (fun st x hx => ⟨⟨by omega, by omega⟩, ?_⟩)
    · rw [e20] at st
      rw [if_neg (by decide)] at hx
      rw [hx]
      refine q_upto (P := fun w => M 90 0 (70 * c + a + r) ≤ w → (∀ z, M 90 0 (70 * c + a + r) ≤ z → z < w → c_told B R (200 * c + 20 * M 88 0 (70 * c + a + r) + z) = M 124 0 (200 * c + 20 * M 88 0 (70 * c + a + r) + z)) → ∀ u6 u8, b260_163 d h F p c 1 r (70 * c + a + r) u6 w u8 M) (a := M 90 0 (70 * c + a + r)) (b := M 91 0 (70 * c + a + r)) row.2.1.2.1 (fun _ al2 u6 u8 => w260_163 hS ⟨⟨by omega, by omega⟩, fun z => by omega, fun _ => ⟨⟨by omega, by omega⟩, ih (by omega) (fun z z0 z1 => ?_) _ _ _ _⟩⟩) (fun w w0 w1 ihw _ al2 u6 u8 => ?_) (Int.le_refl _) (fun z a b => by omega) _ _
      · by_cases ez : z = r
        · rw [ez]; exact ⟨⟨k1, k2, k3⟩, st, al2⟩
        · exact al z z0 (by omega)
      · have th := row.2.2 w w0 w1
        refine w260_163 hS ⟨⟨by omega, by omega⟩, fun _ => ⟨fun y => absurd y (by decide), fun _ => ⟨⟨by omega, by omega⟩, t158 hS hc row.1 (by omega) ?_⟩⟩, fun z => absurd w1 z⟩
        have pid2 : p_id c (M 88 0 (70 * c + a + r)) w = 200 * c + 20 * M 88 0 (70 * c + a + r) + w := by unfold p_id; omega
        rw [pid2]
        refine t218 hS hB2 hbk hpl hG ⟨by omega, by omega⟩ th ⟨⟨by omega, by omega⟩, fun x hx => ⟨⟨by omega, by omega⟩, ?_⟩⟩
        by_cases qt : c_told B R (200 * c + 20 * M 88 0 (70 * c + a + r) + w) = M 124 0 (200 * c + 20 * M 88 0 (70 * c + a + r) + w)
        · rw [if_pos qt] at hx
          rw [hx]
          refine ihw (by omega) (fun z z0 z1 => ?_) _ _
          by_cases ez : z = w
          · rw [ez]; exact qt
          · exact al2 z z0 (by omega)
        · rw [if_neg qt] at hx
          rw [hx]
          exact stop2 r _ _ _ _ (by omega) (by omega) (by omega) (by omega) (no (fun z => qt (z.2.2 w w0 w1)))
    · rw [e20] at st
      rw [if_pos rfl] at hx
      rw [hx]
      exact stop2 r _ _ _ _ (by omega) (by omega) (by omega) (by omega) (no (fun z => st z.2.1))
  · rw [if_neg q] at hx
    rw [hx]
    exact stop _ _ _ _ _ (H0 (fun z => q z.1.symm))
def u_mfl (M : qM) (s s' : Int) : Prop := M 95 0 s = M 125 0 s' ∧ M 68 0 (M 95 0 s / 20) = M 120 0 (M 95 0 s / 20)
def u_mln (M : qM) (s s' : Int) : Prop := (M 97 0 s = M 126 0 s' ∧ M 98 0 s = M 127 0 s') ∧ M 68 0 (M 97 0 s / 20) = M 120 0 (M 97 0 s / 20)
theorem t261 {d : Nat} {h : qH} (hS : qSe h) {c p f f' n l l' m : Int} {M : qM} {F : Int → qM → Prop} (hc : 0 ≤ c ∧ c < 3) (hp : 0 ≤ p ∧ p < 400) (e105 : M 105 0 p = c) (e108 : M 108 0 p = f) (e109 : M 109 0 p = n) (e131 : M 131 0 p = f') (e110 : M 110 0 p = l) (e111 : M 111 0 p = m) (e133 : M 133 0 p = l') (hf : 0 ≤ f ∧ f + n ≤ 4 ∧ 0 ≤ n) (hl : 0 ≤ l ∧ l + m ≤ 12 ∧ 0 ≤ m) (hf' : M 132 0 p = n → 0 ≤ f' ∧ f' + n ≤ 4) (hl' : M 134 0 p = m → 0 ≤ l' ∧ l' + m ≤ 12) (h95 : ∀ z, f ≤ z → z < f + n → 0 ≤ M 95 0 (4 * c + z) ∧ M 95 0 (4 * c + z) < 600) (h97 : ∀ z, l ≤ z → z < l + m → 0 ≤ M 97 0 (12 * c + z) ∧ M 97 0 (12 * c + z) < 600)
    (H1 : (M 132 0 p = n ∧ M 134 0 p = m) → (∀ z, 0 ≤ z → z < n → u_mfl M (4 * c + f + z) (4 * c + f' + z)) → (∀ z, 0 ≤ z → z < m → u_mln M (12 * c + l + z) (12 * c + l' + z)) → F 1 M) (H0 : ¬ ((M 132 0 p = n ∧ M 134 0 p = m) ∧ (∀ z, 0 ≤ z → z < n → u_mfl M (4 * c + f + z) (4 * c + f' + z)) ∧ ∀ z, 0 ≤ z → z < m → u_mln M (12 * c + l + z) (12 * c + l' + z)) → F 0 M) : e261 (d + 2) h p M F := by
  have stop : ∀ r u5 u6, F 0 M → b261_128 d h F p c 0 r u5 u6 M := fun r u5 u6 no => w261_128 hS ⟨hp, fun _ => ⟨fun _ => ⟨Or.inl rfl, no⟩, fun y => absurd rfl y⟩, fun _ => ⟨Or.inl rfl, no⟩⟩
  have stop1 : ∀ r u5 u6, F 0 M → b261_46 d h F p c 0 r u5 u6 M := fun r u5 u6 no => w261_46 hS ⟨hp, fun _ => ⟨fun _ => stop _ _ _ no, fun y => absurd rfl y⟩, fun _ => stop _ _ _ no⟩
  refine w261 hS ⟨hp, hp, hp, fun _ => ⟨hp, hp⟩, fun x hx => ?_⟩
  rw [e105]
  rw [e109, e111] at hx
  by_cases q : n = M 132 0 p ∧ m = M 134 0 p
  · rw [if_pos q.1, if_pos q.2] at hx
    rw [hx]
    have fb := hf' q.1.symm
    have lb := hl' q.2.symm
    have no1 : ∀ z, 0 ≤ z → z < n → ¬ u_mfl M (4 * c + f + z) (4 * c + f' + z) → F 0 M := fun z a b y => H0 (fun w => y (w.2.1 z a b))
    have no2 : ∀ z, 0 ≤ z → z < m → ¬ u_mln M (12 * c + l + z) (12 * c + l' + z) → F 0 M := fun z a b y => H0 (fun w => y (w.2.2 z a b))
    refine q_upto (P := fun r => 0 ≤ r → (∀ z, 0 ≤ z → z < r → u_mfl M (4 * c + f + z) (4 * c + f' + z)) → ∀ u5 u6, b261_46 d h F p c 1 r u5 u6 M) (a := 0) (b := n) hf.2.2 (fun _ al u5 u6 => w261_46 hS ⟨hp, fun z => by rw [e109] at z; omega, fun _ => ?_⟩) (fun r r0 r1 ih _ al u5 u6 => ?_) (Int.le_refl _) (fun z a b => by omega) _ _
    · refine q_upto (P := fun r => 0 ≤ r → (∀ z, 0 ≤ z → z < r → u_mln M (12 * c + l + z) (12 * c + l' + z)) → ∀ u5 u6, b261_128 d h F p c 1 r u5 u6 M) (a := 0) (b := m) hl.2.2 (fun _ al2 u5 u6 => w261_128 hS ⟨hp, fun z => by rw [e111] at z; omega, fun _ => ⟨Or.inr rfl, H1 ⟨q.1.symm, q.2.symm⟩ al al2⟩⟩) (fun r r0 r1 ih _ al2 u5 u6 => ?_) (Int.le_refl _) (fun z a b => by omega) _ _
      have v := h97 (l + r) (by omega) (by omega)
      rw [show 12 * c + (l + r) = 12 * c + l + r by omega] at v
      refine w261_128 hS ⟨hp, fun _ => ⟨fun y => absurd y (by decide), fun _ => ?_⟩, fun z => by rw [e111] at z; omega⟩
      rw [e110, e133]
      refine ⟨⟨by omega, by omega⟩, hp, ⟨by omega, by omega⟩, ⟨by omega, by omega⟩, ⟨by omega, by omega⟩, hp, ⟨by omega, by omega⟩, ⟨by omega, by omega⟩, ⟨by omega, by omega⟩, ⟨by omega, by omega⟩, fun k1 => ⟨⟨by omega, by omega⟩, ⟨by omega, by omega⟩, fun k2 => ⟨⟨by omega, by omega⟩, t259 hS v (fun st x hx => ⟨⟨by omega, by omega⟩, ?_⟩) (fun st x hx => ⟨⟨by omega, by omega⟩, ?_⟩)⟩, fun k2 => ⟨⟨by omega, by omega⟩, stop _ _ _ (no2 r r0 r1 (fun z => k2 z.1.2))⟩⟩, fun k1 => ⟨⟨by omega, by omega⟩, stop _ _ _ (no2 r r0 r1 (fun z => k1 z.1.1))⟩⟩
      · rw [if_neg (by decide)] at hx
        rw [hx]
        refine ih (by omega) (fun z a b => ?_) _ _
        by_cases ez : z = r
        · rw [ez]; exact ⟨⟨k1, k2⟩, st⟩
        · exact al2 z a (by omega)
      · rw [if_pos rfl] at hx
        rw [hx]
        exact stop _ _ _ (no2 r r0 r1 (fun z => st z.2))
    · have v := h95 (f + r) (by omega) (by omega)
      rw [show 4 * c + (f + r) = 4 * c + f + r by omega] at v
      refine w261_46 hS ⟨hp, fun _ => ⟨fun y => absurd y (by decide), fun _ => ?_⟩, fun z => by rw [e109] at z; omega⟩
      rw [e108, e131]
      refine ⟨⟨by omega, by omega⟩, hp, ⟨by omega, by omega⟩, ⟨by omega, by omega⟩, ⟨by omega, by omega⟩, ⟨by omega, by omega⟩, hp, ⟨by omega, by omega⟩, ⟨by omega, by omega⟩, ⟨by omega, by omega⟩, fun k1 => t259 hS v (fun st x hx => ⟨⟨by omega, by omega⟩, ?_⟩) (fun st x hx => ⟨⟨by omega, by omega⟩, ?_⟩), fun k1 => ⟨⟨by omega, by omega⟩, stop1 _ _ _ (no1 r r0 r1 (fun z => k1 z.1))⟩⟩
      · rw [if_neg (by decide)] at hx
        rw [hx]
        refine ih (by omega) (fun z a b => ?_) _ _
        by_cases ez : z = r
        · rw [ez]; exact ⟨k1, st⟩
        · exact al z a (by omega)
      · rw [if_pos rfl] at hx
        rw [hx]
        exact stop1 _ _ _ (no1 r r0 r1 (fun z => st z.2))
  · have hx0 : x = 0 := by
      rw [hx]
      by_cases q1 : n = M 132 0 p
      · rw [if_pos q1, if_neg (fun z => q ⟨q1, z⟩)]
      · rw [if_neg q1]
    rw [hx0]
    exact stop1 _ _ _ (H0 (fun z => q ⟨z.1.1.symm, z.1.2.symm⟩))
