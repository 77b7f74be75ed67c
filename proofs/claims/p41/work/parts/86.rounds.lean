/-! ===== the widths of rounds: the first that took them, the widest of them ===== -/
def b_mxN (g : Int → Int) (a : Int) : Nat → Int
  | 0 => 0
  | j + 1 => if b_mxN g a j ≤ g (a + j) then g (a + j) else b_mxN g a j
/-- the widest from a on, before b -/
def b_mx (g : Int → Int) (a b : Int) : Int := b_mxN g a (b - a).toNat
theorem b_mx_0 {g : Int → Int} {a : Int} : b_mx g a a = 0 := by
  unfold b_mx
  rw [show (a - a).toNat = 0 by omega]; rfl
theorem b_mx_s {g : Int → Int} {a b : Int} (h : a ≤ b) : b_mx g a (b + 1) = if b_mx g a b ≤ g b then g b else b_mx g a b := by
  unfold b_mx
  rw [show (b + 1 - a).toNat = (b - a).toNat + 1 by omega]
  show (if b_mxN g a (b - a).toNat ≤ g (a + ((b - a).toNat : Int)) then g (a + ((b - a).toNat : Int)) else b_mxN g a (b - a).toNat) = _
  rw [show a + ((b - a).toNat : Int) = b by omega]
theorem b_mx_b {g : Int → Int} {a b k : Int} (hk : 0 ≤ k) (hab : a ≤ b) (hg : ∀ r, a ≤ r → r < b → 0 ≤ g r ∧ g r ≤ k) : 0 ≤ b_mx g a b ∧ b_mx g a b ≤ k := by
  have st : ∀ n : Nat, ∀ b, b = a + n → (∀ r, a ≤ r → r < b → 0 ≤ g r ∧ g r ≤ k) → 0 ≤ b_mx g a b ∧ b_mx g a b ≤ k := by
    intro n
    induction n with
    | zero => intro b hb _; rw [show b = a by omega, b_mx_0]; omega
    | succ n ih =>
      intro b hb hg
      have i := ih (b - 1) (by omega) (fun r x y => hg r x (by omega))
      have s := b_mx_s (g := g) (a := a) (b := b - 1) (by omega)
      rw [show b - 1 + 1 = b by omega] at s
      have := hg (b - 1) (by omega) (by omega)
      rw [s]
      split <;> omega
  exact st (b - a).toNat b (by omega) hg
/-- the first round that took them, before n -/
def b_first (Q : Int → Prop) (n v : Int) : Prop := (v = -1 ∧ ∀ r, 0 ≤ r → r < n → ¬ Q r) ∨ ((0 ≤ v ∧ v < n) ∧ Q v ∧ ∀ r, 0 ≤ r → r < v → ¬ Q r)
theorem b_first_u {Q : Int → Prop} {n v w : Int} (hv : b_first Q n v) (hw : b_first Q n w) : v = w := by
  rcases hv with ⟨v1, v2⟩ | ⟨v1, v2, v3⟩ <;> rcases hw with ⟨w1, w2⟩ | ⟨w1, w2, w3⟩
  · omega
  · exact absurd w2 (v2 w w1.1 w1.2)
  · exact absurd v2 (w2 v v1.1 v1.2)
  · by_cases q : v < w
    · exact absurd v2 (w3 v v1.1 q)
    · by_cases q1 : w < v
      · exact absurd w2 (v3 w w1.1 q1)
      · omega
theorem t24 {d : Nat} {h : qH} (hS : qSe h) {x1 n : Int} {M : qM} {F : Int → qM → Prop} (hn : 0 ≤ n ∧ n < 12) (hc : 0 ≤ M 2 0 3 ∧ M 2 0 3 ≤ 180)
    (H : ∀ v, b_first (fun r => ∀ i, 0 ≤ i → i < M 2 0 3 → M 18 r i = M 18 x1 i) (n + 1) v → F v M) : e24 (d + 1) h x1 n M F := by
  refine w24 hS ?_
  refine q_upto (P := fun r => 0 ≤ r → (∀ r', 0 ≤ r' → r' < r → ¬ ∀ i, 0 ≤ i → i < M 2 0 3 → M 18 r' i = M 18 x1 i) → ∀ u, b24_2 d h F x1 n r u M) (a := 0) (b := n + 1) (by omega) (fun _ no u => w24_2 hS ⟨fun q => by omega, fun _ => H _ (Or.inl ⟨rfl, no⟩)⟩) (fun r r0 r1 ih _ no u => ?_) (by omega) (fun r' a b => by omega) _
  refine w24_2 hS ⟨fun _ => ?_, fun q => by omega⟩
  refine q_upto (P := fun i => 0 ≤ i → (∀ j, 0 ≤ j → j < i → M 18 r j = M 18 x1 j) → b24_10 d h F x1 n r i M) (a := 0) (b := M 2 0 3) (by omega) (fun _ al => w24_10 hS ⟨fun q => by omega, fun _ => ⟨fun _ => H r (Or.inr ⟨⟨by omega, by omega⟩, al, no⟩), fun q => absurd rfl q⟩⟩) (fun i i0 i1 ihi _ al => ?_) (by omega) (fun j a b => by omega)
  refine w24_10 hS ⟨fun _ => ⟨⟨by omega, by omega⟩, ⟨by omega, by omega⟩, ⟨by omega, by omega⟩, fun q => ⟨⟨by omega, by omega⟩, ihi (by omega) (fun j a b => ?_)⟩, fun q => ⟨fun q1 => by omega, fun _ => ⟨⟨by omega, by omega⟩, ih (by omega) (fun r' a b => ?_) _⟩⟩⟩, fun q => by omega⟩
  · by_cases e : j = i
    · rw [e]; exact q
    · exact al j a (by omega)
  · by_cases e : r' = r
    · rw [e]; exact fun z => q (z i i0 i1)
    · exact no r' a (by omega)
def fr12 (k0 : Nat) (r : Int) (M M' : qM) : Prop := ∀ (k : Nat) (m s : Int), ¬ (k = k0 ∧ m = r) → M' k m s = M k m s
theorem t12 {d : Nat} {h : qH} (hS : qSe h) {n a : Int} {M : qM} {F : qM → Prop} (hn : 0 ≤ a ∧ a ≤ n ∧ n < 13) (hc : 0 ≤ M 2 0 3 ∧ M 2 0 3 ≤ 180)
    (H : ∀ M', fr12 18 n M M' → (∀ i, 0 ≤ i → i < M 2 0 3 → M' 18 n i = b_mx (fun r => M 18 r i) a n) → F M') : e12 (d + 2) h a n M F := by
  refine w12 hS ?_
  refine q_upto (P := fun i => 0 ≤ i → ∀ M1 u4 u5, fr12 18 n M M1 → (∀ j, 0 ≤ j → j < i → M1 18 n j = b_mx (fun r => M 18 r j) a n) → b12_2 d h F a n i u4 u5 M1) (a := 0) (b := M 2 0 3) (by omega) (fun _ M1 u4 u5 O1 v1 => w12_2 hS ⟨fun q => ?_, fun _ => H M1 O1 v1⟩) (fun i i0 i1 ih _ M1 u4 u5 O1 v1 => ?_) (by omega) M _ _ (fun _ _ _ _ => rfl) (fun j a b => by omega)
  · rw [O1 2 0 3 (by omega)] at q; omega
  · have e3 : M1 2 0 3 = M 2 0 3 := O1 2 0 3 (by omega)
    refine w12_2 hS ⟨fun _ => ?_, fun q => by omega⟩
    have st : b12_16 d h F a n i (b_mx (fun r => M 18 r i) a a) a M1 := by
      refine q_upto (P := fun r => a ≤ r → b12_16 d h F a n i (b_mx (fun r => M 18 r i) a r) r M1) (a := a) (b := n) (by omega) (fun _ => ?_) (fun r r0 r1 ihr _ => ?_) (by omega)
      · refine w12_16 hS ⟨fun q => by omega, fun _ => ⟨⟨by omega, by omega⟩, ⟨by omega, by omega⟩, fun M2 f2 => ⟨⟨by omega, by omega⟩, ih (by omega) M2 _ _ (fun k m s q => by rw [f2]; unfold qU; rw [if_neg (by omega)]; exact O1 k m s q) (fun j a b => ?_)⟩⟩⟩
        by_cases e : j = i
        · rw [e, f2, qU_s]
        · rw [f2, qU_l (by omega)]; exact v1 j a (by omega)
      · refine w12_16 hS ⟨fun _ => ⟨⟨by omega, by omega⟩, ⟨by omega, by omega⟩, w264 hS (fun y hy => ⟨⟨by omega, by omega⟩, ?_⟩)⟩, fun q => by omega⟩
        have e : y = b_mx (fun r => M 18 r i) a (r + 1) := by
          rw [hy, O1 18 r i (by omega), b_mx_s r0]
          generalize b_mx (fun r => M 18 r i) a r = m
          show (if m < M 18 r i then M 18 r i else m) = if m ≤ M 18 r i then M 18 r i else m
          split <;> split <;> omega
        rw [e]
        exact ihr (by omega)
    rw [b_mx_0] at st
    exact st
