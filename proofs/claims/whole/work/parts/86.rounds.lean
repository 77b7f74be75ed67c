/-! ===== the widths of rounds: the first that took them, the widest of them ===== -/
def b_mxN (g : Int → Int) (a : Int) : Nat → Int
  | 0 => 0
  | j + 1 => if b_mxN g a j ≤ g (a + j) then g (a + j) else b_mxN g a j
/-- the widest from a on, before b -/
def b_mx (g : Int → Int) (a b : Int) : Int := b_mxN g a (b - a).toNat
theorem b_mx_0 {g : Int → Int} {a : Int} : b_mx g a a = 0 := by
  unfold b_mx
  rw [show (a - a).toNat = 0 by omega]; rfl
theorem b_mx_s {g : Int → Int} {a b : Int} (h : a ≤ b) : b_mx g a (b + 1) = if b_mx g a b ≤ g b then g b else b_mx g a b := by
  unfold b_mx
  rw [show (b + 1 - a).toNat = (b - a).toNat + 1 by omega]
  show (if b_mxN g a (b - a).toNat ≤ g (a + ((b - a).toNat : Int)) then g (a + ((b - a).toNat : Int)) else b_mxN g a (b - a).toNat) = _
  rw [show a + ((b - a).toNat : Int) = b by omega]
theorem b_mx_b {g : Int → Int} {a b k : Int} (hk : 0 ≤ k) (hab : a ≤ b) (hg : ∀ r, a ≤ r → r < b → 0 ≤ g r ∧ g r ≤ k) : 0 ≤ b_mx g a b ∧ b_mx g a b ≤ k := by
  have st : ∀ n : Nat, ∀ b, b = a + n → (∀ r, a ≤ r → r < b → 0 ≤ g r ∧ g r ≤ k) → 0 ≤ b_mx g a b ∧ b_mx g a b ≤ k := by
    intro n
    induction n with
    | zero => intro b hb _; rw [show b = a by omega, b_mx_0]; omega
    | succ n ih =>
      intro b hb hg
      have i := ih (b - 1) (by omega) (fun r x y => hg r x (by omega))
      have s := b_mx_s (g := g) (a := a) (b := b - 1) (by omega)
      rw [show b - 1 + 1 = b by omega] at s
      have := hg (b - 1) (by omega) (by omega)
      rw [s]
      split <;> omega
  exact st (b - a).toNat b (by omega) hg
/-- the first round that took them, before n -/
def b_first (Q : Int → Prop) (n v : Int) : Prop := (v = -1 ∧ ∀ r, 0 ≤ r → r < n → ¬ Q r) ∨ ((0 ≤ v ∧ v < n) ∧ Q v ∧ ∀ r, 0 ≤ r → r < v → ¬ Q r)
theorem b_first_u {Q : Int → Prop} {n v w : Int} (hv : b_first Q n v) (hw : b_first Q n w) : v = w := by
  rcases hv with ⟨v1, v2⟩ | ⟨v1, v2, v3⟩ <;> rcases hw with ⟨w1, w2⟩ | ⟨w1, w2, w3⟩
  · omega
  · exact absurd w2 (v2 w w1.1 w1.2)
  · exact absurd v2 (w2 v v1.1 v1.2)
  · by_cases q : v < w
    · exact absurd v2 (w3 v v1.1 q)
    · by_cases q1 : w < v
      · exact absurd w2 (v3 w w1.1 q1)
      · omega
theorem t24 {d : Nat} {h : qH} (hS : qSe h) {x1 n : Int} {M : qM} {F : Int → qM → Prop} (hn : 0 ≤ n ∧ n < 12) (hc : 0 ≤ M 2 0 3 ∧ M 2 0 3 ≤ 180)
    (H : ∀ v, b_first (fun r => ∀ i, 0 ≤ i → i < M 2 0 3 → M 18 r i = M 18 x1 i) (n + 1) v → F v M) : e24 (d + 1) h x1 n M F := by
  refine w24 hS ?_
  refine q_upto (P := fun r => 0 ≤ r → (∀ r', 0 ≤ r' → r' < r → ¬ ∀ i, 0 ≤ i → i < M 2 0 3 → M 18 r' i = M 18 x1 i) → ∀ u, b24_2 d h F x1 n r u M) (a := 0) (b := n + 1) (by omega) (fun _ no u => w24_2 hS ⟨fun q => by omega, fun _ => H _ (Or.inl ⟨rfl, no⟩)⟩) (fun r r0 r1 ih _ no u => ?_) (by omega) (fun r' a b => by omega) _
  refine w24_2 hS ⟨fun _ => ?_, fun q => by omega⟩
  refine q_upto (P := fun i => 0 ≤ i → (∀ j, 0 ≤ j → j < i → M 18 r j = M 18 x1 j) → b24_10 d h F x1 n r i M) (a := 0) (b := M 2 0 3) (by omega) (fun _ al => w24_10 hS ⟨fun q => by omega, fun _ => ⟨fun _ => H r (Or.inr ⟨⟨by omega, by omega⟩, al, no⟩), fun q => absurd rfl q⟩⟩) (fun i i0 i1 ihi _ al => ?_) (by omega) (fun j a b => by omega)
  refine w24_10 hS ⟨fun _ => ⟨⟨by omega, by omega⟩, ⟨by omega, by omega⟩, ⟨by omega, by omega⟩, fun q => ⟨⟨by omega, by omega⟩, ihi (by omega) (fun j a b => ?_)⟩, fun q => ⟨fun q1 => by omega, fun _ => ⟨⟨by omega, by omega⟩, ih (by omega) (fun r' a b => ?_) _⟩⟩⟩, fun q => by omega⟩
  · by_cases e : j = i
    · rw [e]; exact q
    · exact al j a (by omega)
  · by_cases e : r' = r
    · rw [e]; exact fun z => q (z i i0 i1)
    · exact no r' a (by omega)
theorem t213 {d : Nat} {h : qH} (hS : qSe h) {n : Int} {M : qM} {F : Int → qM → Prop} (hn : 0 ≤ n ∧ n ≤ 12) (h20 : M 11 0 20 = n)
    (H : ∀ v, b_first (fun r => ∀ i, 0 ≤ i → i < 600 → M 78 0 (600 * r + i) = M 77 0 i) n v → F v M) : e213 (d + 1) h M F := by
  subst h20
  refine w213 hS ⟨⟨by omega, by omega⟩, ?_⟩
  have loop : ∀ (t : Nat) (r v : Int), r + 1 = t → r < M 11 0 20 → ((v = -1 ∧ ∀ r', r < r' → r' < M 11 0 20 → ¬ ∀ i, 0 ≤ i → i < 600 → M 78 0 (600 * r' + i) = M 77 0 i) ∨ ((r < v ∧ v < M 11 0 20) ∧ (∀ i, 0 ≤ i → i < 600 → M 78 0 (600 * v + i) = M 77 0 i) ∧ ∀ r', r < r' → r' < v → ¬ ∀ i, 0 ≤ i → i < 600 → M 78 0 (600 * r' + i) = M 77 0 i)) → ∀ u3 u4, b213_9 d h F v r u3 u4 M := by
    intro t
    induction t with
    | zero =>
      intro r v ht hr hv u3 u4
      refine w213_9 hS ⟨fun _ => H v ?_, fun q => by omega⟩
      rcases hv with ⟨v1, v2⟩ | ⟨v1, v2, v3⟩
      · exact Or.inl ⟨v1, fun r' a b => v2 r' (by omega) b⟩
      · exact Or.inr ⟨⟨by omega, v1.2⟩, v2, fun r' a b => v3 r' (by omega) b⟩
    | succ t ih =>
      intro r v ht hr hv u3 u4
      refine w213_9 hS ⟨fun q => by omega, fun _ => ?_⟩
      refine q_upto (P := fun i => 0 ≤ i → ∀ z : Int, ((z = 1 ∧ ∀ j, 0 ≤ j → j < i → M 78 0 (600 * r + j) = M 77 0 j) ∨ (z = 0 ∧ ∃ j, (0 ≤ j ∧ j < i) ∧ M 78 0 (600 * r + j) ≠ M 77 0 j)) → b213_18 d h F v r z i M) (a := 0) (b := 600) (by omega) (fun _ z hz => ?_) (fun i i0 i1 ihi _ z hz => ?_) (by omega) 1 (Or.inl ⟨rfl, fun j a b => by omega⟩)
      · refine w213_18 hS ⟨fun q => by omega, fun _ => fun y hy => ⟨⟨by omega, by omega⟩, ih (r + -1) y (by omega) (by omega) ?_ _ _⟩⟩
        rcases hz with ⟨z1, z2⟩ | ⟨z1, j, z2, z3⟩
        · rw [z1, if_neg (by decide)] at hy
          right
          rw [hy]
          exact ⟨⟨by omega, by omega⟩, z2, fun r' a b => by omega⟩
        · rw [z1, if_pos rfl] at hy
          have nr : ¬ ∀ i, 0 ≤ i → i < 600 → M 78 0 (600 * r + i) = M 77 0 i := fun w => z3 (w j z2.1 z2.2)
          rw [hy]
          rcases hv with ⟨v1, v2⟩ | ⟨v1, v2, v3⟩
          · left
            refine ⟨v1, fun r' a b => ?_⟩
            by_cases e : r' = r
            · rw [e]; exact nr
            · exact v2 r' (by omega) b
          · right
            refine ⟨⟨by omega, v1.2⟩, v2, fun r' a b => ?_⟩
            by_cases e : r' = r
            · rw [e]; exact nr
            · exact v3 r' (by omega) b
      · refine w213_18 hS ⟨fun _ => ⟨fun _ => ⟨⟨by omega, by omega⟩, ⟨by omega, by omega⟩, ⟨by omega, by omega⟩, ⟨by omega, by omega⟩⟩, fun y hy => ⟨⟨by omega, by omega⟩, ihi (by omega) y ?_⟩⟩, fun q => by omega⟩
        rcases hz with ⟨z1, z2⟩ | ⟨z1, j, z2, z3⟩
        · rw [z1, if_neg (by decide)] at hy
          by_cases e : M 78 0 (600 * r + i) = M 77 0 i
          · rw [if_pos e] at hy
            left
            refine ⟨hy, fun j a b => ?_⟩
            by_cases e2 : j = i
            · rw [e2]; exact e
            · exact z2 j a (by omega)
          · rw [if_neg e] at hy
            exact Or.inr ⟨hy, i, ⟨i0, by omega⟩, e⟩
        · rw [z1, if_pos rfl] at hy
          exact Or.inr ⟨hy, j, ⟨z2.1, by omega⟩, z3⟩
  exact loop (M 11 0 20).toNat (M 11 0 20 - 1) (-1) (by omega) (by omega) (Or.inl ⟨rfl, fun r' a b => by omega⟩) _ _
theorem t214 {d : Nat} {h : qH} (hS : qSe h) {n a : Int} {M : qM} {F : qM → Prop} (hn : 0 ≤ a ∧ a < n ∧ n ≤ 12) (h20 : M 11 0 20 = n) (hW : ∀ s, 0 ≤ M 78 0 s ∧ M 78 0 s ≤ 100)
    (H : ∀ M', fr211 76 M M' → (∀ x, 0 ≤ x → x < 600 → M' 76 0 x = b_mx (fun r => M 78 0 (600 * r + x)) a n) → F M') : e214 (d + 1) h a M F := by
  refine w214 hS ?_
  refine q_upto (P := fun r => a ≤ r → ∀ M1 u3 u4, fr211 76 M M1 → (a < r → ∀ x, 0 ≤ x → x < 600 → M1 76 0 x = b_mx (fun r => M 78 0 (600 * r + x)) a r) → b214_2 d h F a r u3 u4 M1) (a := a) (b := n) (by omega) (fun _ M1 u3 u4 O1 v1 => w214_2 hS ⟨fun q => ?_, fun _ => H M1 O1 (v1 (by omega))⟩) (fun r r0 r1 ih _ M1 u3 u4 O1 v1 => ?_) (by omega) M _ _ (fun _ _ _ _ => rfl) (fun q => by omega)
  · rw [O1 11 0 20 (by omega)] at q; omega
  · have e20 : M1 11 0 20 = n := by rw [O1 11 0 20 (by omega)]; exact h20
    refine w214_2 hS ⟨fun _ => ?_, fun q => by omega⟩
    refine q_upto (P := fun x => 0 ≤ x → ∀ M2 u4, fr211 76 M M2 → (∀ y, 0 ≤ y → y < x → M2 76 0 y = b_mx (fun r => M 78 0 (600 * r + y)) a (r + 1)) → (∀ y, x ≤ y → M2 76 0 y = M1 76 0 y) → b214_12 d h F a r x u4 M2) (a := 0) (b := 600) (by omega) (fun _ M2 u4 O2 v2 w2 => ?_) (fun x x0 x1 ihx _ M2 u4 O2 v2 w2 => ?_) (by omega) M1 _ O1 (fun y a b => by omega) (fun y _ => rfl)
    · exact w214_12 hS ⟨fun q => by omega, fun _ => ⟨⟨by omega, by omega⟩, ih (by omega) M2 _ _ O2 (fun _ x x0 x1 => v2 x x0 x1)⟩⟩
    · have e78 : M2 78 0 (600 * r + x) = M 78 0 (600 * r + x) := O2 _ _ _ (by omega)
      have bW := hW (600 * r + x)
      refine w214_12 hS ⟨fun _ => ⟨⟨by omega, by omega⟩, ⟨by omega, by omega⟩, ⟨by omega, by omega⟩, fun _ => ⟨⟨x0, x1⟩, fun _ => ⟨x0, x1⟩⟩, fun y hy => ⟨⟨x0, x1⟩, fun M3 f3 => ⟨⟨by omega, by omega⟩, ihx (by omega) M3 _ (fun k m s q => by rw [f3]; unfold qU; rw [if_neg (by omega)]; exact O2 k m s q) (fun z z0 z1 => ?_) (fun z z0 => ?_)⟩⟩⟩, fun q => by omega⟩
      · by_cases e : z = x
        · rw [e, f3, qU_s, hy, e78, b_mx_s r0]
          by_cases q : r = a
          · rw [if_pos q, q, b_mx_0]
            show M 78 0 (600 * a + x) = if 0 ≤ M 78 0 (600 * a + x) then M 78 0 (600 * a + x) else 0
            rw [q] at bW
            rw [if_pos bW.1]
          · rw [if_neg q, w2 x (by omega), v1 (by omega) x x0 x1]
            have bm := b_mx_b (g := fun r => M 78 0 (600 * r + x)) (a := a) (b := r) (k := 100) (by omega) r0 (fun r _ _ => hW _)
            generalize b_mx (fun r => M 78 0 (600 * r + x)) a r = m at *
            show (if M 78 0 (600 * r + x) ≤ m then m else M 78 0 (600 * r + x)) = if m ≤ M 78 0 (600 * r + x) then M 78 0 (600 * r + x) else m
            split <;> split <;> omega
        · rw [f3, qU_l (by omega)]; exact v2 z z0 (by omega)
      · rw [f3, qU_l (by omega)]; exact w2 z (by omega)
def fr12 (k0 : Nat) (r : Int) (M M' : qM) : Prop := ∀ (k : Nat) (m s : Int), ¬ (k = k0 ∧ m = r) → M' k m s = M k m s
theorem t12 {d : Nat} {h : qH} (hS : qSe h) {n a : Int} {M : qM} {F : qM → Prop} (hn : 0 ≤ a ∧ a ≤ n ∧ n < 13) (hc : 0 ≤ M 2 0 3 ∧ M 2 0 3 ≤ 180)
    (H : ∀ M', fr12 18 n M M' → (∀ i, 0 ≤ i → i < M 2 0 3 → M' 18 n i = b_mx (fun r => M 18 r i) a n) → F M') : e12 (d + 2) h a n M F := by
  refine w12 hS ?_
  refine q_upto (P := fun i => 0 ≤ i → ∀ M1 u4 u5, fr12 18 n M M1 → (∀ j, 0 ≤ j → j < i → M1 18 n j = b_mx (fun r => M 18 r j) a n) → b12_2 d h F a n i u4 u5 M1) (a := 0) (b := M 2 0 3) (by omega) (fun _ M1 u4 u5 O1 v1 => w12_2 hS ⟨fun q => ?_, fun _ => H M1 O1 v1⟩) (fun i i0 i1 ih _ M1 u4 u5 O1 v1 => ?_) (by omega) M _ _ (fun _ _ _ _ => rfl) (fun j a b => by omega)
  · rw [O1 2 0 3 (by omega)] at q; omega
  · have e3 : M1 2 0 3 = M 2 0 3 := O1 2 0 3 (by omega)
    refine w12_2 hS ⟨fun _ => ?_, fun q => by omega⟩
    have st : b12_16 d h F a n i (b_mx (fun r => M 18 r i) a a) a M1 := by
      refine q_upto (P := fun r => a ≤ r → b12_16 d h F a n i (b_mx (fun r => M 18 r i) a r) r M1) (a := a) (b := n) (by omega) (fun _ => ?_) (fun r r0 r1 ihr _ => ?_) (by omega)
      · refine w12_16 hS ⟨fun q => by omega, fun _ => ⟨⟨by omega, by omega⟩, ⟨by omega, by omega⟩, fun M2 f2 => ⟨⟨by omega, by omega⟩, ih (by omega) M2 _ _ (fun k m s q => by rw [f2]; unfold qU; rw [if_neg (by omega)]; exact O1 k m s q) (fun j a b => ?_)⟩⟩⟩
        by_cases e : j = i
        · rw [e, f2, qU_s]
        · rw [f2, qU_l (by omega)]; exact v1 j a (by omega)
      · refine w12_16 hS ⟨fun _ => ⟨⟨by omega, by omega⟩, ⟨by omega, by omega⟩, w264 hS (fun y hy => ⟨⟨by omega, by omega⟩, ?_⟩)⟩, fun q => by omega⟩
        have e : y = b_mx (fun r => M 18 r i) a (r + 1) := by
          rw [hy, O1 18 r i (by omega), b_mx_s r0]
          generalize b_mx (fun r => M 18 r i) a r = m
          show (if m < M 18 r i then M 18 r i else m) = if m ≤ M 18 r i then M 18 r i else m
          split <;> split <;> omega
        rw [e]
        exact ihr (by omega)
    rw [b_mx_0] at st
    exact st
