/-! ===== sheets that are the same: the law's comparing ===== -/
def s_ln (c a b n : Int) (M : qM) : Prop := ∀ i, 0 ≤ i → i < n → M 73 0 (12 * c + a + i) = M 86 0 (12 * c + b + i) ∧ M 65 0 (6 * c + M 73 0 (12 * c + a + i) / 64) / 256 % 256 = M 82 0 (6 * c + M 73 0 (12 * c + a + i) / 64)
def s_fl (c a b n : Int) (M : qM) : Prop := ∀ i, 0 ≤ i → i < n → M 72 0 (4 * c + a + i) = M 85 0 (4 * c + b + i) ∧ M 65 0 (6 * c + M 72 0 (4 * c + a + i) / 16) / 256 % 256 = M 82 0 (6 * c + M 72 0 (4 * c + a + i) / 16)
def s_tx (B : pT) (R : c_R) (row it : Int) (M : qM) : Prop := ∀ w, row / 16 % 32 ≤ w → w < row / 512 % 32 → k_told B R (k_y it w) = M 84 0 (M 83 0 it + w)
def s_rw (B : pT) (R : c_R) (c x y : Int) (M : qM) : Prop := x = y ∧ M 65 0 (6 * c + x % 16) / 256 % 256 = M 82 0 (6 * c + x % 16) ∧ s_tx B R x (6 * c + x % 16) M
def s_rs (B : pT) (R : c_R) (c a b n : Int) (M : qM) : Prop := ∀ i, 0 ≤ i → i < n → s_rw B R c (M 71 0 (20 * c + a + i) % 16384) (M 80 0 (20 * c + b + i) % 16384) M
/-- page p is the same as printed -/
def s_pg (B : pT) (R : c_R) (M : qM) (p : Int) : Prop := M 74 0 p % 8 = M 81 0 p % 8 ∧ (M 74 0 p % 8 ≤ 2 → (M 74 0 p / 67108864 = M 81 0 p / 67108864 ∧ M 74 0 p / 256 % 16 = M 81 0 p / 256 % 16 ∧ M 74 0 p / 32768 % 8 = M 81 0 p / 32768 % 8 ∧ M 74 0 p / 4194304 % 16 = M 81 0 p / 4194304 % 16) ∧ s_rs B R (M 74 0 p % 8) (M 74 0 p / 8 % 32) (M 81 0 p / 8 % 32) (M 74 0 p / 256 % 16) M ∧ s_fl (M 74 0 p % 8) (M 74 0 p / 4096 % 8) (M 81 0 p / 4096 % 8) (M 74 0 p / 32768 % 8) M ∧ s_ln (M 74 0 p % 8) (M 74 0 p / 262144 % 16) (M 81 0 p / 262144 % 16) (M 74 0 p / 4194304 % 16) M)
/-- what is read stands within the arrays -/
def s_bd (B : pT) (M : qM) (p : Int) : Prop := M 74 0 p % 8 ≤ 2 → M 74 0 p % 8 = M 81 0 p % 8 → (M 74 0 p / 8 % 32 + M 74 0 p / 256 % 16 ≤ 20 ∧ M 74 0 p / 4096 % 8 + M 74 0 p / 32768 % 8 ≤ 4 ∧ M 74 0 p / 262144 % 16 + M 74 0 p / 4194304 % 16 ≤ 12) ∧ (M 81 0 p / 8 % 32 + M 81 0 p / 256 % 16 ≤ 20 ∧ M 81 0 p / 4096 % 8 + M 81 0 p / 32768 % 8 ≤ 4 ∧ M 81 0 p / 262144 % 16 + M 81 0 p / 4194304 % 16 ≤ 12) ∧ (∀ i, 0 ≤ i → i < M 74 0 p / 256 % 16 → M 71 0 (20 * (M 74 0 p % 8) + M 74 0 p / 8 % 32 + i) % 16384 % 16 < 6 ∧ M 71 0 (20 * (M 74 0 p % 8) + M 74 0 p / 8 % 32 + i) % 16384 / 16 % 32 ≤ M 71 0 (20 * (M 74 0 p % 8) + M 74 0 p / 8 % 32 + i) % 16384 / 512 % 32 ∧ M 71 0 (20 * (M 74 0 p % 8) + M 74 0 p / 8 % 32 + i) % 16384 / 512 % 32 ≤ B 3 (k_x (6 * (M 74 0 p % 8) + M 71 0 (20 * (M 74 0 p % 8) + M 74 0 p / 8 % 32 + i) % 16384 % 16))) ∧ (∀ i, 0 ≤ i → i < M 74 0 p / 32768 % 8 → 0 ≤ M 72 0 (4 * (M 74 0 p % 8) + M 74 0 p / 4096 % 8 + i) ∧ M 72 0 (4 * (M 74 0 p % 8) + M 74 0 p / 4096 % 8 + i) / 16 < 6) ∧ ∀ i, 0 ≤ i → i < M 74 0 p / 4194304 % 16 → 0 ≤ M 73 0 (12 * (M 74 0 p % 8) + M 74 0 p / 262144 % 16 + i) ∧ M 73 0 (12 * (M 74 0 p % 8) + M 74 0 p / 262144 % 16 + i) / 64 < 6
section
variable {d : Nat} {h : qH} {f : Int → qM → Prop} {u2 : qV} {x15 x16 x17 p c : Int} {M : qM}
theorem s_568_0 (hS : qSe h) (hp : 0 ≤ p ∧ p < 62) {i : Int} {u22 u23 u24 : qV} (N : ∀ u20 u21 u22 u23 u24, b224_54 d h f u2 x15 x16 x17 0 (p + 1) u20 u21 u22 u23 u24 M) : b224_568 d h f u2 x15 x16 x17 0 p c i u22 u23 u24 M :=
  w224_568 hS ⟨hp, L206l hS ⟨fun _ => ⟨fun _ => ⟨⟨by omega, by omega⟩, N _ _ _ _ _⟩, fun z => absurd rfl z⟩, fun _ => ⟨⟨by omega, by omega⟩, N _ _ _ _ _⟩⟩⟩
theorem s_441_0 (hS : qSe h) (hp : 0 ≤ p ∧ p < 62) {i : Int} {u22 u23 u24 : qV} (N : ∀ u20 u21 u22 u23 u24, b224_54 d h f u2 x15 x16 x17 0 (p + 1) u20 u21 u22 u23 u24 M) : b224_441 d h f u2 x15 x16 x17 0 p c i u22 u23 u24 M :=
  w224_441 hS ⟨hp, L206m hS ⟨fun _ => ⟨fun _ => s_568_0 hS hp N, fun z => absurd rfl z⟩, fun _ => s_568_0 hS hp N⟩⟩
theorem s_249_0 (hS : qSe h) (hp : 0 ≤ p ∧ p < 62) {i : Int} {u22 u23 u24 : qV} (N : ∀ u20 u21 u22 u23 u24, b224_54 d h f u2 x15 x16 x17 0 (p + 1) u20 u21 u22 u23 u24 M) : b224_249 d h f u2 x15 x16 x17 0 p c i u22 u23 u24 M :=
  w224_249 hS ⟨hp, L206n hS ⟨fun _ => ⟨fun _ => s_441_0 hS hp N, fun z => absurd rfl z⟩, fun _ => s_441_0 hS hp N⟩⟩
theorem s_568 (hS : qSe h) (hp : 0 ≤ p ∧ p < 62) (hc : 0 ≤ c ∧ c < 3) (h1 : M 74 0 p / 262144 % 16 + M 74 0 p / 4194304 % 16 ≤ 12) (h2 : M 81 0 p / 262144 % 16 + M 74 0 p / 4194304 % 16 ≤ 12) (hit : ∀ i, 0 ≤ i → i < M 74 0 p / 4194304 % 16 → 0 ≤ M 73 0 (12 * c + M 74 0 p / 262144 % 16 + i) ∧ M 73 0 (12 * c + M 74 0 p / 262144 % 16 + i) / 64 < 6) {u22 u23 u24 : qV}
    (N1 : s_ln c (M 74 0 p / 262144 % 16) (M 81 0 p / 262144 % 16) (M 74 0 p / 4194304 % 16) M → ∀ u20 u21 u22 u23 u24, b224_54 d h f u2 x15 x16 x17 1 (p + 1) u20 u21 u22 u23 u24 M)
    (N0 : ¬ s_ln c (M 74 0 p / 262144 % 16) (M 81 0 p / 262144 % 16) (M 74 0 p / 4194304 % 16) M → ∀ u20 u21 u22 u23 u24, b224_54 d h f u2 x15 x16 x17 0 (p + 1) u20 u21 u22 u23 u24 M) : b224_568 d h f u2 x15 x16 x17 1 p c 0 u22 u23 u24 M := by
  refine q_upto (P := fun i => 0 ≤ i → (∀ z, 0 ≤ z → z < i → M 73 0 (12 * c + M 74 0 p / 262144 % 16 + z) = M 86 0 (12 * c + M 81 0 p / 262144 % 16 + z) ∧ M 65 0 (6 * c + M 73 0 (12 * c + M 74 0 p / 262144 % 16 + z) / 64) / 256 % 256 = M 82 0 (6 * c + M 73 0 (12 * c + M 74 0 p / 262144 % 16 + z) / 64)) → ∀ u22 u23 u24, b224_568 d h f u2 x15 x16 x17 1 p c i u22 u23 u24 M) (a := 0) (b := M 74 0 p / 4194304 % 16) (by omega) (fun _ al u22 u23 u24 => w224_568 hS ⟨hp, L206l hS ⟨fun q => absurd q (Int.lt_irrefl _), fun _ => ⟨⟨by omega, by omega⟩, N1 al _ _ _ _ _⟩⟩⟩) (fun i i0 i1 ih _ al u22 u23 u24 => ?_) (Int.le_refl _) (fun z a b => by omega) _ _ _
  have it := hit i i0 i1
  refine w224_568 hS ⟨hp, L206l hS ⟨fun _ => ⟨fun q => absurd q (by decide), fun _ => ⟨⟨by omega, by omega⟩, hp, L206h hS ⟨⟨by omega, by omega⟩, ⟨by omega, by omega⟩, ⟨by omega, by omega⟩, ⟨by omega, by omega⟩, hp, L206h hS ⟨⟨by omega, by omega⟩, ⟨by omega, by omega⟩, ⟨by omega, by omega⟩, fun e => ⟨⟨by omega, by omega⟩, ⟨by omega, by omega⟩, ⟨by omega, by omega⟩, L206s hS ⟨⟨by omega, by omega⟩, ⟨by omega, by omega⟩, ⟨by omega, by omega⟩, fun x hx => ⟨⟨by omega, by omega⟩, ?_⟩⟩⟩, fun e => ⟨⟨by omega, by omega⟩, s_568_0 hS hp (N0 fun al2 => e (al2 i i0 i1).1)⟩⟩⟩⟩⟩, fun z => absurd i1 z⟩⟩
  by_cases q : M 65 0 (6 * c + M 73 0 (12 * c + M 74 0 p / 262144 % 16 + i) / 64) / 256 % 256 = M 82 0 (6 * c + M 73 0 (12 * c + M 74 0 p / 262144 % 16 + i) / 64)
  · rw [if_pos q] at hx
    rw [hx]
    refine ih (by omega) (fun z a b => ?_) _ _ _
    by_cases ez : z = i
    · rw [ez]; exact ⟨e, q⟩
    · exact al z a (by omega)
  · rw [if_neg q] at hx
    rw [hx]
    exact s_568_0 hS hp (N0 fun al2 => q (al2 i i0 i1).2)
theorem s_441 (hS : qSe h) (hp : 0 ≤ p ∧ p < 62) (hc : 0 ≤ c ∧ c < 3) (h1 : M 74 0 p / 4096 % 8 + M 74 0 p / 32768 % 8 ≤ 4) (h2 : M 81 0 p / 4096 % 8 + M 74 0 p / 32768 % 8 ≤ 4) (hit : ∀ i, 0 ≤ i → i < M 74 0 p / 32768 % 8 → 0 ≤ M 72 0 (4 * c + M 74 0 p / 4096 % 8 + i) ∧ M 72 0 (4 * c + M 74 0 p / 4096 % 8 + i) / 16 < 6) {u22 u23 u24 : qV}
    (N1 : s_fl c (M 74 0 p / 4096 % 8) (M 81 0 p / 4096 % 8) (M 74 0 p / 32768 % 8) M → ∀ u22 u23 u24, b224_568 d h f u2 x15 x16 x17 1 p c 0 u22 u23 u24 M)
    (N0 : ¬ s_fl c (M 74 0 p / 4096 % 8) (M 81 0 p / 4096 % 8) (M 74 0 p / 32768 % 8) M → ∀ u20 u21 u22 u23 u24, b224_54 d h f u2 x15 x16 x17 0 (p + 1) u20 u21 u22 u23 u24 M) : b224_441 d h f u2 x15 x16 x17 1 p c 0 u22 u23 u24 M := by
  refine q_upto (P := fun i => 0 ≤ i → (∀ z, 0 ≤ z → z < i → M 72 0 (4 * c + M 74 0 p / 4096 % 8 + z) = M 85 0 (4 * c + M 81 0 p / 4096 % 8 + z) ∧ M 65 0 (6 * c + M 72 0 (4 * c + M 74 0 p / 4096 % 8 + z) / 16) / 256 % 256 = M 82 0 (6 * c + M 72 0 (4 * c + M 74 0 p / 4096 % 8 + z) / 16)) → ∀ u22 u23 u24, b224_441 d h f u2 x15 x16 x17 1 p c i u22 u23 u24 M) (a := 0) (b := M 74 0 p / 32768 % 8) (by omega) (fun _ al u22 u23 u24 => w224_441 hS ⟨hp, L206m hS ⟨fun q => absurd q (Int.lt_irrefl _), fun _ => N1 al _ _ _⟩⟩) (fun i i0 i1 ih _ al u22 u23 u24 => ?_) (Int.le_refl _) (fun z a b => by omega) _ _ _
  have it := hit i i0 i1
  refine w224_441 hS ⟨hp, L206m hS ⟨fun _ => ⟨fun q => absurd q (by decide), fun _ => ⟨⟨by omega, by omega⟩, hp, L206f hS ⟨⟨by omega, by omega⟩, ⟨by omega, by omega⟩, ⟨by omega, by omega⟩, ⟨by omega, by omega⟩, hp, L206f hS ⟨⟨by omega, by omega⟩, ⟨by omega, by omega⟩, ⟨by omega, by omega⟩, fun e => ⟨⟨by omega, by omega⟩, ⟨by omega, by omega⟩, ⟨by omega, by omega⟩, L206s hS ⟨⟨by omega, by omega⟩, ⟨by omega, by omega⟩, ⟨by omega, by omega⟩, fun x hx => ⟨⟨by omega, by omega⟩, ?_⟩⟩⟩, fun e => ⟨⟨by omega, by omega⟩, s_441_0 hS hp (N0 fun al2 => e (al2 i i0 i1).1)⟩⟩⟩⟩⟩, fun z => absurd i1 z⟩⟩
  by_cases q : M 65 0 (6 * c + M 72 0 (4 * c + M 74 0 p / 4096 % 8 + i) / 16) / 256 % 256 = M 82 0 (6 * c + M 72 0 (4 * c + M 74 0 p / 4096 % 8 + i) / 16)
  · rw [if_pos q] at hx
    rw [hx]
    refine ih (by omega) (fun z a b => ?_) _ _ _
    by_cases ez : z = i
    · rw [ez]; exact ⟨e, q⟩
    · exact al z a (by omega)
  · rw [if_neg q] at hx
    rw [hx]
    exact s_441_0 hS hp (N0 fun al2 => q (al2 i i0 i1).2)
theorem s_378_0 (hS : qSe h) {i row it at' : Int} (hi : 0 ≤ i ∧ i < 100) (N : ∀ u22 u23 u24, b224_249 d h f u2 x15 x16 x17 0 p c (i + 1) u22 u23 u24 M) : b224_378 d h f u2 x15 x16 x17 0 p c i row it at' M :=
  w224_378 hS (L196 hS ⟨fun _ => ⟨fun _ => ⟨⟨by omega, by omega⟩, N _ _ _⟩, fun z => absurd rfl z⟩, fun _ => ⟨⟨by omega, by omega⟩, N _ _ _⟩⟩)
variable {B Bo : pT} {en L : Int} {W : Int → Int} {R : c_R}
theorem s_378 (hS : qSe h) (hx : k_as B en W R L M) {i row it : Int} (hi : 0 ≤ i ∧ i < 100) (h18 : 0 ≤ it ∧ it < 18) (hto : row / 512 % 32 ≤ B 3 (k_x it)) (hfr : row / 16 % 32 ≤ row / 512 % 32) (h83 : 0 ≤ M 83 0 it ∧ M 83 0 it ≤ 48)
    (N1 : s_tx B R row it M → ∀ u22 u23 u24, b224_249 d h f u2 x15 x16 x17 1 p c (i + 1) u22 u23 u24 M)
    (N0 : ¬ s_tx B R row it M → ∀ u22 u23 u24, b224_249 d h f u2 x15 x16 x17 0 p c (i + 1) u22 u23 u24 M) : b224_378 d h f u2 x15 x16 x17 1 p c i row it (row / 16 % 32) M := by
  have cx := hx.1.1
  have hB := cx.1.1.1
  have z := cx.2.2 hx.1.2
  obtain ⟨ob, B1, R1, out⟩ := z.2.2.1
  have pb := c_p0_b hB
  have n15 := hx.2.1.1.2.1 (k_x it) (k_x_p h18).1.1 (k_x_p h18).1.2
  refine q_upto (P := fun w => row / 16 % 32 ≤ w → (∀ z, row / 16 % 32 ≤ z → z < w → k_told B R (k_y it z) = M 84 0 (M 83 0 it + z)) → b224_378 d h f u2 x15 x16 x17 1 p c i row it w M) (a := row / 16 % 32) (b := row / 512 % 32) hfr (fun _ al => w224_378 hS (L196 hS ⟨fun q => absurd q (Int.lt_irrefl _), fun _ => ⟨⟨by omega, by omega⟩, N1 al _ _ _⟩⟩)) (fun w w0 w1 ih _ al => ?_) (Int.le_refl _) (fun z a b => by omega)
  refine w224_378 hS (L196 hS ⟨fun _ => ⟨fun q => absurd q (by decide), fun _ => L213 hS hB cx.1.1.2 hx.2.1.1 hx.2.1.2.1 hx.2.2.1 ⟨by omega, by omega⟩ out hx.2.2.2.2.2.1 h18 ⟨by omega, by omega⟩ ⟨⟨by omega, by omega⟩, ⟨by omega, by omega⟩, ⟨by omega, by omega⟩, fun x hx => ⟨⟨by omega, by omega⟩, ?_⟩⟩⟩, fun z => absurd w1 z⟩)
  by_cases q : k_told B R (k_y it w) = M 84 0 (M 83 0 it + w)
  · rw [if_pos q] at hx
    rw [hx]
    refine ih (by omega) (fun z a b => ?_)
    by_cases ez : z = w
    · rw [ez]; exact q
    · exact al z a (by omega)
  · rw [if_neg q] at hx
    rw [hx]
    exact s_378_0 hS hi (N0 fun al2 => q (al2 w w0 w1))
theorem s_249 (hS : qSe h) (hx : k_as B en W R L M) (hp : 0 ≤ p ∧ p < 62) (hc : 0 ≤ c ∧ c < 3) (h1 : M 74 0 p / 8 % 32 + M 74 0 p / 256 % 16 ≤ 20) (h2 : M 81 0 p / 8 % 32 + M 74 0 p / 256 % 16 ≤ 20) (h83 : ∀ it, 0 ≤ it → it < 18 → 0 ≤ M 83 0 it ∧ M 83 0 it ≤ 48) (hit : ∀ i, 0 ≤ i → i < M 74 0 p / 256 % 16 → M 71 0 (20 * c + M 74 0 p / 8 % 32 + i) % 16384 % 16 < 6 ∧ M 71 0 (20 * c + M 74 0 p / 8 % 32 + i) % 16384 / 16 % 32 ≤ M 71 0 (20 * c + M 74 0 p / 8 % 32 + i) % 16384 / 512 % 32 ∧ M 71 0 (20 * c + M 74 0 p / 8 % 32 + i) % 16384 / 512 % 32 ≤ B 3 (k_x (6 * c + M 71 0 (20 * c + M 74 0 p / 8 % 32 + i) % 16384 % 16))) {u22 u23 u24 : qV}
    (N1 : s_rs B R c (M 74 0 p / 8 % 32) (M 81 0 p / 8 % 32) (M 74 0 p / 256 % 16) M → ∀ u22 u23 u24, b224_441 d h f u2 x15 x16 x17 1 p c 0 u22 u23 u24 M)
    (N0 : ¬ s_rs B R c (M 74 0 p / 8 % 32) (M 81 0 p / 8 % 32) (M 74 0 p / 256 % 16) M → ∀ u20 u21 u22 u23 u24, b224_54 d h f u2 x15 x16 x17 0 (p + 1) u20 u21 u22 u23 u24 M) : b224_249 d h f u2 x15 x16 x17 1 p c 0 u22 u23 u24 M := by
  refine q_upto (P := fun i => 0 ≤ i → (∀ z, 0 ≤ z → z < i → s_rw B R c (M 71 0 (20 * c + M 74 0 p / 8 % 32 + z) % 16384) (M 80 0 (20 * c + M 81 0 p / 8 % 32 + z) % 16384) M) → ∀ u22 u23 u24, b224_249 d h f u2 x15 x16 x17 1 p c i u22 u23 u24 M) (a := 0) (b := M 74 0 p / 256 % 16) (by omega) (fun _ al u22 u23 u24 => w224_249 hS ⟨hp, L206n hS ⟨fun q => absurd q (Int.lt_irrefl _), fun _ => N1 al _ _ _⟩⟩) (fun i i0 i1 ih _ al u22 u23 u24 => ?_) (Int.le_refl _) (fun z a b => by omega) _ _ _
  have it := hit i i0 i1
  refine w224_249 hS ⟨hp, L206n hS ⟨fun _ => ⟨fun q => absurd q (by decide), fun _ => ⟨⟨by omega, by omega⟩, hp, L206a hS ?_⟩⟩, fun z => absurd i1 z⟩⟩
  simp only [k_a16383, k_a15]
  refine ⟨⟨by omega, by omega⟩, ⟨by omega, by omega⟩, ⟨by omega, by omega⟩, ⟨by omega, by omega⟩, ⟨by omega, by omega⟩, ⟨by omega, by omega⟩, hp, L206a hS ⟨⟨by omega, by omega⟩, ⟨by omega, by omega⟩, ⟨by omega, by omega⟩, fun e => ⟨⟨by omega, by omega⟩, L206s hS ⟨⟨by omega, by omega⟩, fun es => L195 hS ?_, fun es => ?_⟩⟩, fun e => ?_⟩⟩
  · refine s_378 hS hx ⟨i0, by omega⟩ ⟨by omega, by omega⟩ it.2.2 it.2.1 (h83 _ (by omega) (by omega)) (fun tx u22 u23 u24 => ih (by omega) (fun z a b => ?_) _ _ _) (fun tx u22 u23 u24 => s_249_0 hS hp (N0 fun al2 => tx (al2 i i0 i1).2.2))
    by_cases ez : z = i
    · rw [ez]; exact ⟨e, es, tx⟩
    · exact al z a (by omega)
  · exact w224_368 hS (L195 hS (s_378_0 hS ⟨i0, by omega⟩ (fun _ _ _ => s_249_0 hS hp (N0 fun al2 => es (al2 i i0 i1).2.1))))
  · exact w224_368 hS (L195 hS (s_378_0 hS ⟨i0, by omega⟩ (fun _ _ _ => s_249_0 hS hp (N0 fun al2 => e (al2 i i0 i1).1))))
theorem s_54 (hS : qSe h) (hx : k_as B en W R L M) (h6 : M 76 0 6 ≤ 61) (h33 : M 76 0 33 ≤ 61) (hp : 1 ≤ p ∧ p ≤ x16) (hm : x16 ≤ 61) (hps : p < 4 * x17 + 5) (hs : 0 ≤ x17 ∧ x17 < 200) (h83 : ∀ it, 0 ≤ it → it < 18 → 0 ≤ M 83 0 it ∧ M 83 0 it ≤ 48) (hb : p ≤ M 76 0 6 → p ≤ M 76 0 33 → s_bd B M p) {u20 u21 u22 u23 u24 : qV}
    (N1 : p ≤ M 76 0 6 ∧ p ≤ M 76 0 33 ∧ s_pg B R M p → ∀ u20 u21 u22 u23 u24, b224_54 d h f u2 x15 x16 x17 1 (p + 1) u20 u21 u22 u23 u24 M)
    (N0 : ¬ (p ≤ M 76 0 6 ∧ p ≤ M 76 0 33 ∧ s_pg B R M p) → ∀ u20 u21 u22 u23 u24, b224_54 d h f u2 x15 x16 x17 0 (p + 1) u20 u21 u22 u23 u24 M) : b224_54 d h f u2 x15 x16 x17 1 p u20 u21 u22 u23 u24 M := by
  refine w224_54 hS ⟨⟨by omega, by omega⟩, ⟨by omega, by omega⟩, fun _ => ⟨fun _ => ⟨⟨by omega, by omega⟩, fun _ _ => ⟨by omega, by omega⟩, fun x hxx => ?_⟩, fun z => absurd hp.2 z⟩, fun z => absurd hps z⟩
  simp only [k_a7] at hxx ⊢
  by_cases k : p ≤ M 76 0 6 ∧ p ≤ M 76 0 33 ∧ M 74 0 p % 8 = M 81 0 p % 8
  · rw [if_pos k.1, if_pos k.2.1, if_pos k.2.2] at hxx
    rw [hxx]
    have e1 : qAnd 1 1 = 1 := rfl
    rw [e1]
    refine ⟨fun q => absurd q (by decide), fun _ => ⟨fun lt => ?_, fun ge => ⟨⟨by omega, by omega⟩, N1 ⟨k.1, k.2.1, k.2.2, fun q => absurd q ge⟩ _ _ _ _ _⟩⟩⟩
    obtain ⟨b1, b2, b3, b4, b5⟩ := hb k.1 k.2.1 lt k.2.2
    have pp : 0 ≤ p ∧ p < 62 := ⟨by omega, by omega⟩
    have no : ∀ (i : Int) (u22 u23 u24 : qV), ¬ s_pg B R M p → b224_249 d h f u2 x15 x16 x17 0 p (M 74 0 p % 8) i u22 u23 u24 M := fun i u22 u23 u24 z => s_249_0 hS pp (N0 fun y => z y.2.2)
    refine ⟨pp, pp, fun g => ⟨pp, L206n hS ⟨pp, L206n hS ⟨fun g1 => ⟨pp, L206m hS ⟨pp, L206m hS ⟨fun g2 => ⟨pp, L206l hS ⟨pp, L206l hS (fun y hy => ?_)⟩⟩, fun g2 => no _ _ _ _ fun z => g2 (z.2 lt).1.2.2.1⟩⟩⟩, fun g1 => no _ _ _ _ fun z => g1 (z.2 lt).1.2.1⟩⟩⟩, fun g => no _ _ _ _ fun z => g (z.2 lt).1.1⟩
    by_cases g3 : M 74 0 p / 4194304 % 16 = M 81 0 p / 4194304 % 16
    · rw [if_pos g3] at hy
      rw [hy]
      refine s_249 hS hx pp ⟨by omega, by omega⟩ b1.1 (by omega) h83 b3 (fun r1 _ _ _ => s_441 hS pp ⟨by omega, by omega⟩ b1.2.1 (by omega) b4 (fun r2 _ _ _ => s_568 hS pp ⟨by omega, by omega⟩ b1.2.2 (by omega) b5 (fun r3 => N1 ⟨k.1, k.2.1, k.2.2, fun _ => ⟨⟨g, g1, g2, g3⟩, r1, r2, r3⟩⟩) (fun r3 => N0 fun z => r3 (z.2.2.2 lt).2.2.2)) (fun r2 => N0 fun z => r2 (z.2.2.2 lt).2.2.1)) (fun r1 => N0 fun z => r1 (z.2.2.2 lt).2.1)
    · rw [if_neg g3] at hy
      rw [hy]
      exact no _ _ _ _ fun z => g3 (z.2 lt).1.2.2.2
  · have x0 : x = 0 := by
      rw [hxx]
      by_cases k1 : p ≤ M 76 0 6
      · rw [if_pos k1]
        by_cases k2 : p ≤ M 76 0 33
        · rw [if_pos k2, if_neg (fun z => k ⟨k1, k2, z⟩)]
        · rw [if_neg k2]
      · rw [if_neg k1]
    rw [x0]
    have e0 : qAnd 1 0 = 0 := rfl
    rw [e0]
    exact ⟨fun _ => ⟨⟨by omega, by omega⟩, N0 (fun z => k ⟨z.1, z.2.1, z.2.2.1⟩) _ _ _ _ _⟩, fun z => absurd rfl z⟩
theorem s_54_0 (hS : qSe h) (hp : 1 ≤ p ∧ p ≤ x16) (hm : x16 ≤ 61) (hps : p < 4 * x17 + 5) (hs : 0 ≤ x17 ∧ x17 < 200) {u20 u21 u22 u23 u24 : qV}
    (N0 : ∀ u20 u21 u22 u23 u24, b224_54 d h f u2 x15 x16 x17 0 (p + 1) u20 u21 u22 u23 u24 M) : b224_54 d h f u2 x15 x16 x17 0 p u20 u21 u22 u23 u24 M := by
  refine w224_54 hS ⟨⟨by omega, by omega⟩, ⟨by omega, by omega⟩, fun _ => ⟨fun _ => ⟨⟨by omega, by omega⟩, fun _ _ => ⟨by omega, by omega⟩, fun x hxx => ?_⟩, fun z => absurd hp.2 z⟩, fun z => absurd hps z⟩
  have x01 : x = 0 ∨ x = 1 := by
    rw [hxx]
    split
    · split
      · split
        · exact Or.inr rfl
        · exact Or.inl rfl
      · exact Or.inl rfl
    · exact Or.inl rfl
  have e0 : qAnd 0 x = 0 := by
    rcases x01 with e | e
    · rw [e]; rfl
    · rw [e]; rfl
  rw [e0]
  exact ⟨fun _ => ⟨⟨by omega, by omega⟩, N0 _ _ _ _ _⟩, fun z => absurd rfl z⟩
/-- how many sheets are the same -/
theorem L224 (hS : qSe h) (hx : k_as B en W R L M) {tot was : Int} (h6 : M 76 0 6 = tot ∧ 0 ≤ tot ∧ tot ≤ 61) (h33 : M 76 0 33 = was ∧ 0 ≤ was ∧ was ≤ 61) (h83 : ∀ it, 0 ≤ it → it < 18 → 0 ≤ M 83 0 it ∧ M 83 0 it ≤ 48) (hb : ∀ p, 1 ≤ p → p ≤ tot → p ≤ was → s_bd B M p) (H : f (u_cnt tot was (s_pg B R M) (((if tot < was then was else tot) + 3) / 4)) M) : e224 (d + 6) h M f := by
  have hm : ∃ mx, mx = (if tot < was then was else tot) ∧ (0 ≤ mx ∧ mx ≤ 61) ∧ ∀ z, z ≤ mx ↔ z ≤ tot ∨ z ≤ was := by
    by_cases q : tot < was
    · exact ⟨was, by rw [if_pos q], ⟨by omega, by omega⟩, fun z => by omega⟩
    · exact ⟨tot, by rw [if_neg q], ⟨by omega, by omega⟩, fun z => by omega⟩
  obtain ⟨mx, em, mb, mz⟩ := hm
  rw [← em] at H
  refine w224 hS (fun x hxx => ?_)
  have ex : x = mx := by
    rw [hxx, h6.1, h33.1, em]
    by_cases q : tot < was
    · rw [if_pos (by omega), if_pos q]
    · rw [if_neg q]
      split <;> omega
  rw [ex]
  have sh : ∀ s, u_sh tot was (s_pg B R M) s ↔ ∀ z, 4 * s + 1 ≤ z → z ≤ 4 * s + 4 → z ≤ mx → z ≤ M 76 0 6 ∧ z ≤ M 76 0 33 ∧ s_pg B R M z := fun s => by
    rw [h6.1, h33.1]
    refine ⟨fun g z a b c => ?_, fun g z a b => ?_⟩
    · have gz := g z a b
      rcases (mz z).mp c with y | y
      · exact ⟨y, gz.1.mp y, gz.2 y⟩
      · exact ⟨gz.1.mpr y, y, gz.2 (gz.1.mpr y)⟩
    · by_cases c : z ≤ mx
      · have gz := g z a b c
        exact ⟨⟨fun _ => gz.2.1, fun _ => gz.1⟩, fun _ => gz.2.2⟩
      · have nc : ¬ (z ≤ tot ∨ z ≤ was) := fun y => c ((mz z).mpr y)
        exact ⟨⟨fun y => absurd (Or.inl y) nc, fun y => absurd (Or.inr y) nc⟩, fun y => absurd (Or.inl y) nc⟩
  refine q_upto (P := fun s => 0 ≤ s → ∀ u18 u19 u20 u21 u22 u23 u24, b224_34 d h f (.inr (.inl (some (67, 0)))) (u_cnt tot was (s_pg B R M) s) mx s u18 u19 u20 u21 u22 u23 u24 M) (a := 0) (b := (mx + 3) / 4) (by omega) (fun _ u18 u19 u20 u21 u22 u23 u24 => w224_34 hS ⟨⟨by omega, by omega⟩, fun q => by omega, fun _ => H⟩) (fun s s0 s1 ih _ u18 u19 u20 u21 u22 u23 u24 => ?_) (Int.le_refl _) _ _ _ _ _ _ _
  have ub := u_cnt_b (tot := tot) (was := was) (C := s_pg B R M) s0
  have us : u_cnt tot was (s_pg B R M) (s + 1) = u_cnt tot was (s_pg B R M) s + @ite Int (u_sh tot was (s_pg B R M) s) (Classical.propDecidable _) 1 0 := p_sum_s s0
  have nx : ∀ (x18 p : Int) (u19 u20 u21 u22 u23 u24 : qV), ((x18 = 1 ∧ u_sh tot was (s_pg B R M) s) ∨ (x18 = 0 ∧ ¬ u_sh tot was (s_pg B R M) s)) → (∀ x : Int, x = (if x18 = 0 then 0 else 1) → (qIn (u_cnt tot was (s_pg B R M) s + x) ∧ (qIn (s + 1) ∧ b224_34 d h f (.inr (.inl (some (67, 0)))) (u_cnt tot was (s_pg B R M) s + x) mx (s + 1) u19 (.inl p) u20 u21 u22 u23 u24 M))) := fun x18 p u19 u20 u21 u22 u23 u24 g x hx2 => by
    rcases g with ⟨g1, g2⟩ | ⟨g1, g2⟩
    · rw [g1, if_neg (by decide)] at hx2
      rw [if_pos g2] at us
      rw [hx2, ← us]
      exact ⟨⟨by omega, by omega⟩, ⟨by omega, by omega⟩, ih (by omega) _ _ _ _ _ _ _⟩
    · rw [g1, if_pos rfl] at hx2
      rw [if_neg g2, Int.add_zero] at us
      rw [hx2, Int.add_zero]
      refine ⟨⟨by omega, by omega⟩, ⟨by omega, by omega⟩, ?_⟩
      rw [← us]
      exact ih (by omega) _ _ _ _ _ _ _
  refine w224_34 hS ⟨⟨by omega, by omega⟩, fun _ => ⟨⟨by omega, by omega⟩, ⟨by omega, by omega⟩, ?_⟩, fun q => by omega⟩
  refine q_upto (P := fun p => 4 * s + 1 ≤ p → ∀ x18, ((x18 = 1 ∧ ∀ z, 4 * s + 1 ≤ z → z < p → z ≤ mx → z ≤ M 76 0 6 ∧ z ≤ M 76 0 33 ∧ s_pg B R M z) ∨ (x18 = 0 ∧ ¬ u_sh tot was (s_pg B R M) s)) → ∀ u20 u21 u22 u23 u24, b224_54 d h f (.inr (.inl (some (67, 0)))) (u_cnt tot was (s_pg B R M) s) mx s x18 p u20 u21 u22 u23 u24 M) (a := 4 * s + 1) (b := 4 * s + 5) (by omega) (fun _ x18 g u20 u21 u22 u23 u24 => ?_) (fun p p0 p1 ihp _ x18 g u20 u21 u22 u23 u24 => ?_) (Int.le_refl _) 1 (Or.inl ⟨rfl, fun z a b => by omega⟩) _ _ _ _ _
  · refine w224_54 hS ⟨⟨by omega, by omega⟩, ⟨by omega, by omega⟩, fun q => by omega, fun _ => nx _ _ _ _ _ _ _ _ ?_⟩
    rcases g with ⟨g1, g2⟩ | g
    · exact Or.inl ⟨g1, (sh s).mpr fun z a b c => g2 z a (by omega) c⟩
    · exact Or.inr g
  · by_cases pm : p ≤ mx
    · rcases g with ⟨g1, g2⟩ | ⟨g1, g2⟩
      · rw [g1]
        refine s_54 hS hx (by omega) (by omega) ⟨by omega, pm⟩ mb.2 (by omega) ⟨s0, by omega⟩ h83 (fun a b => hb p (by omega) (by omega) (by omega)) (fun ok => ihp (by omega) 1 (Or.inl ⟨rfl, fun z a b c => ?_⟩)) (fun no => ihp (by omega) 0 (Or.inr ⟨rfl, fun y => no ((sh s).mp y p p0 (by omega) pm)⟩))
        by_cases ez : z = p
        · rw [ez]; exact ok
        · exact g2 z a (by omega) c
      · rw [g1]
        exact s_54_0 hS ⟨by omega, pm⟩ mb.2 (by omega) ⟨s0, by omega⟩ (ihp (by omega) 0 (Or.inr ⟨rfl, g2⟩))
    · refine w224_54 hS ⟨⟨by omega, by omega⟩, ⟨by omega, by omega⟩, fun _ => ⟨fun q => absurd q pm, fun _ => nx _ _ _ _ _ _ _ _ ?_⟩, fun q => by omega⟩
      rcases g with ⟨g1, g2⟩ | g
      · exact Or.inl ⟨g1, (sh s).mpr fun z a b c => g2 z a (by omega) c⟩
      · exact Or.inr g
end
