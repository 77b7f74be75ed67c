/-! ===== what calls ask first, class and model ===== -/
theorem t133 {d : Nat} {h : qH} (hS : qSe h) {c : Int} {M : qM} {f : qM → Prop} {g : Nat → qM → Prop} (H1 : 0 ≤ c ∧ c < 3 → f M) (H0 : ¬ (0 ≤ c ∧ c < 3) → g 2 M) : e133 (d + 1) h c M f g :=
  w133 hS ⟨fun q => w133_9 hS (H0 (by omega)), fun q => ⟨fun q2 => H1 (by omega), fun q2 => w133_9 hS (H0 (by omega))⟩⟩
theorem t134 {d : Nat} {h : qH} (hS : qSe h) {c i : Int} {M : qM} {f : Int → qM → Prop} {g : Nat → qM → Prop} (hb : ∀ c, 0 ≤ c → c < 3 → M 1 c 1 ≤ 10) (H1 : (0 ≤ c ∧ c < 3) ∧ 0 ≤ i ∧ i < M 1 c 1 → f (1 + 10 * c + i) M) (H0 : ¬ ((0 ≤ c ∧ c < 3) ∧ 0 ≤ i ∧ i < M 1 c 1) → g 2 M) : e134 (d + 2) h c i M f g :=
  w134 hS (t133 hS (fun q => ⟨fun q1 => w134_22 hS (H0 (by omega)), fun q1 => ⟨q, fun q2 => ⟨q, by have := hb c q.1 q.2; omega, H1 (by omega)⟩, fun q2 => w134_22 hS (H0 (by omega))⟩⟩) (fun q => H0 (by omega)))
theorem t135 {d : Nat} {h : qH} (hS : qSe h) {c i w : Int} {M : qM} {f : qM → Prop} {g : Nat → qM → Prop} (hb : ∀ c, 0 ≤ c → c < 3 → M 1 c 1 ≤ 10) (H1 : ((0 ≤ c ∧ c < 3) ∧ 0 ≤ i ∧ i < M 1 c 1) ∧ 0 ≤ w ∧ w < M 5 (1 + 10 * c + i) 2 → f M) (H0 : ¬ (((0 ≤ c ∧ c < 3) ∧ 0 ≤ i ∧ i < M 1 c 1) ∧ 0 ≤ w ∧ w < M 5 (1 + 10 * c + i) 2) → g 2 M) : e135 (d + 3) h c i w M f g :=
  w135 hS (t134 hS hb (fun q => ⟨fun q1 => w135_21 hS (H0 (by omega)), fun q1 => ⟨fun q2 => H1 ⟨q, by omega⟩, fun q2 => w135_21 hS (H0 (by omega))⟩⟩) (fun q => H0 (fun z => q z.1)))
theorem t145 {d : Nat} {h : qH} (hS : qSe h) {t : Int} {M : qM} {f : Int → qM → Prop} (H1 : 0 ≤ t ∧ t < 10 → f 1 M) (H0 : ¬ (0 ≤ t ∧ t < 10) → f 0 M) : e145 (d + 1) h t M f := by
  refine w145 hS (fun x hx => ?_)
  have hx2 : x = if 0 ≤ t ∧ t < 10 then 1 else 0 := by rw [hx]; (repeat' split) <;> omega
  by_cases q : 0 ≤ t ∧ t < 10
  · rw [if_pos q] at hx2
    rw [hx2]
    exact ⟨Or.inr rfl, H1 q⟩
  · rw [if_neg q] at hx2
    rw [hx2]
    exact ⟨Or.inl rfl, H0 q⟩
theorem t136 {d : Nat} {h : qH} (hS : qSe h) {t : Int} {M : qM} {f : qM → Prop} {g : Nat → qM → Prop} (H1 : 0 ≤ t ∧ t < 10 → f M) (H0 : ¬ (0 ≤ t ∧ t < 10) → g 2 M) : e136 (d + 2) h t M f g :=
  w136 hS (t145 hS (fun q => ⟨fun z => absurd z (by decide), fun _ => H1 q⟩) (fun q => ⟨fun _ => H0 q, fun z => absurd rfl z⟩))
theorem t137 {d : Nat} {h : qH} (hS : qSe h) {p en : Int} {M : qM} {f : qM → Prop} {g : Nat → qM → Prop} (h8 : M 10 0 8 = en + 1) (hen : 0 ≤ en) (H1 : 1 ≤ p ∧ (M 10 0 13 ≠ 0 → p ≤ M 3 en 5) → f M) (H0 : ¬ (1 ≤ p ∧ (M 10 0 13 ≠ 0 → p ≤ M 3 en 5)) → g 2 M) : e137 (d + 1) h p M f g := by
  have e : M 10 0 8 - 1 = en := by omega
  refine w137 hS ⟨fun q => w137_23 hS (H0 (fun z => by have := z.1; omega)), fun q => ⟨fun q1 => H1 ⟨by omega, fun z => absurd q1 z⟩, fun q1 => ⟨fun z => by omega, fun _ => ?_, fun z => by omega⟩⟩⟩
  rw [e]
  exact ⟨fun q2 => H1 ⟨by omega, fun _ => q2⟩, fun q2 => w137_23 hS (H0 (fun z => q2 (z.2 q1)))⟩
theorem t138 {d : Nat} {h : qH} (hS : qSe h) {M : qM} {f : qM → Prop} {g : Nat → qM → Prop} (H1 : M 10 0 13 ≠ 0 → f M) (H0 : M 10 0 13 = 0 → g 1 M) : e138 (d + 1) h M f g := w138 hS ⟨H0, H1⟩
theorem t_asks {h : qH} {M : qM} {f : Int → qM → Prop} {k v : Int} (hv : v = 0 ∨ v = 1) (H1 : v = 1 → M 11 0 22 ≠ 0 → ∀ N, N = qU M 11 0 0 0 → f 1 N) (H2 : v = 0 → ∀ N, N = qU M 11 0 0 1 → f 0 N) (H3 : v = 1 → M 11 0 22 = 0 → ∀ N, N = qU M 11 0 0 2 → f 0 N) : ∀ x104 : Int, x104 = (if v = 0 then 1 else (if (M 11 0 22) = 0 then 2 else 0)) → (∀ M106, M106 = qU M 11 0 0 x104 → (∀ x107 : Int, x107 = (if (M106 11 0 0) = 0 then 1 else 0) → ((x107 = 0 ∨ x107 = 1) ∧ f x107 M106))) := by
  intro x hx N hN y hy
  have e : N 11 0 0 = x := by rw [hN, qU_s]
  rw [e] at hy
  rcases hv with hv | hv
  · rw [if_pos hv] at hx
    rw [hx, if_neg (by decide)] at hy
    rw [hy]
    exact ⟨Or.inl rfl, H2 hv N (by rw [hN, hx])⟩
  · rw [if_neg (by omega)] at hx
    by_cases q : M 11 0 22 = 0
    · rw [if_pos q] at hx
      rw [hx, if_neg (by decide)] at hy
      rw [hy]
      exact ⟨Or.inl rfl, H3 hv q N (by rw [hN, hx])⟩
    · rw [if_neg q] at hx
      rw [hx, if_pos rfl] at hy
      rw [hy]
      exact ⟨Or.inr rfl, H1 hv q N (by rw [hN, hx])⟩
theorem t147 {d : Nat} {h : qH} (hS : qSe h) {c i w : Int} {M : qM} {f : Int → qM → Prop} (hc : 0 ≤ c ∧ c < 3) (hi : 0 ≤ i ∧ i < 10) (hw : 0 ≤ w ∧ w < 20) (H : f (200 * c + 20 * i + w) M) : e147 (d + 1) h c i w M f := by
  have e : (c * 10 + i) * 20 + w = 200 * c + 20 * i + w := by omega
  refine w147 hS ?_
  rw [e]
  exact ⟨⟨by omega, by omega⟩, ⟨by omega, by omega⟩, ⟨by omega, by omega⟩, ⟨by omega, by omega⟩, H⟩
