/-! ===== bits of the law's numbers ===== -/
theorem k_and (x : Int) (k : Nat) (hk : k ≤ 31) : qAnd x ((2 ^ k - 1 : Nat) : Int) = x % 2 ^ k := by
  unfold qAnd
  have hp : 2 ^ k ≤ 2 ^ 31 := Nat.pow_le_pow_right (by decide) hk
  have hp0 : 0 < 2 ^ k := Nat.pow_pos (by decide)
  have h : ((Int32.ofInt x &&& Int32.ofInt ((2 ^ k - 1 : Nat) : Int)).toBitVec).toNat = (x % 4294967296).toNat % 2 ^ k := by
    rw [Int32.toBitVec_and, Int32.toBitVec_ofInt, Int32.toBitVec_ofInt, BitVec.ofInt_natCast, BitVec.toNat_and, BitVec.toNat_ofNat, BitVec.toNat_ofInt, Nat.mod_eq_of_lt (show 2 ^ k - 1 < 2 ^ 32 by omega), Nat.and_two_pow_sub_one_eq_mod]
    rfl
  have hlt : (x % 4294967296).toNat % 2 ^ k < 2 ^ k := Nat.mod_lt _ hp0
  show (Int32.ofInt x &&& Int32.ofInt ((2 ^ k - 1 : Nat) : Int)).toBitVec.toInt = _
  rw [BitVec.toInt_eq_toNat_of_lt (by omega), h]
  have hd : ((2 : Int) ^ k) ∣ 4294967296 := ⟨2 ^ (32 - k), by rw [← Int.pow_add, Nat.add_sub_cancel' (by omega)]; rfl⟩
  rw [Int.natCast_emod, Int.toNat_of_nonneg (Int.emod_nonneg _ (by decide)), show ((2 ^ k : Nat) : Int) = 2 ^ k by simp, Int.emod_emod_of_dvd _ hd]
theorem k_andL (x : Int) (k : Nat) (hk : k ≤ 63) : qAndL x ((2 ^ k - 1 : Nat) : Int) = x % 2 ^ k := by
  unfold qAndL
  have hp : 2 ^ k ≤ 2 ^ 63 := Nat.pow_le_pow_right (by decide) hk
  have hp0 : 0 < 2 ^ k := Nat.pow_pos (by decide)
  have h : ((Int64.ofInt x &&& Int64.ofInt ((2 ^ k - 1 : Nat) : Int)).toBitVec).toNat = (x % 18446744073709551616).toNat % 2 ^ k := by
    rw [Int64.toBitVec_and, Int64.toBitVec_ofInt, Int64.toBitVec_ofInt, BitVec.ofInt_natCast, BitVec.toNat_and, BitVec.toNat_ofNat, BitVec.toNat_ofInt, Nat.mod_eq_of_lt (show 2 ^ k - 1 < 2 ^ 64 by omega), Nat.and_two_pow_sub_one_eq_mod]
    rfl
  have hlt : (x % 18446744073709551616).toNat % 2 ^ k < 2 ^ k := Nat.mod_lt _ hp0
  show (Int64.ofInt x &&& Int64.ofInt ((2 ^ k - 1 : Nat) : Int)).toBitVec.toInt = _
  rw [BitVec.toInt_eq_toNat_of_lt (by omega), h]
  have hd : ((2 : Int) ^ k) ∣ 18446744073709551616 := ⟨2 ^ (64 - k), by rw [← Int.pow_add, Nat.add_sub_cancel' (by omega)]; rfl⟩
  rw [Int.natCast_emod, Int.toNat_of_nonneg (Int.emod_nonneg _ (by decide)), show ((2 ^ k : Nat) : Int) = 2 ^ k by simp, Int.emod_emod_of_dvd _ hd]
theorem k_a1 (x : Int) : qAnd x 1 = x % 2 := k_and x 1 (by decide)
theorem k_a3 (x : Int) : qAnd x 3 = x % 4 := k_and x 2 (by decide)
theorem k_a7 (x : Int) : qAnd x 7 = x % 8 := k_and x 3 (by decide)
theorem k_a15 (x : Int) : qAnd x 15 = x % 16 := k_and x 4 (by decide)
theorem k_a31 (x : Int) : qAnd x 31 = x % 32 := k_and x 5 (by decide)
theorem k_a127 (x : Int) : qAnd x 127 = x % 128 := k_and x 7 (by decide)
theorem k_a255 (x : Int) : qAnd x 255 = x % 256 := k_and x 8 (by decide)
theorem k_a16383 (x : Int) : qAnd x 16383 = x % 16384 := k_and x 14 (by decide)
theorem k_a65535 (x : Int) : qAnd x 65535 = x % 65536 := k_and x 16 (by decide)
theorem k_l1 (x : Int) : qAndL x 1 = x % 2 := k_andL x 1 (by decide)
theorem k_l3 (x : Int) : qAndL x 3 = x % 4 := k_andL x 2 (by decide)
theorem k_l15 (x : Int) : qAndL x 15 = x % 16 := k_andL x 4 (by decide)
theorem k_l2047 (x : Int) : qAndL x 2047 = x % 2048 := k_andL x 11 (by decide)
theorem k_wr {x : Int} (h : qIn x) : qWr x = x := qi_int h
theorem k_natm (n k j : Nat) : n &&& ((2 ^ j - 1) * 2 ^ k) = (n / 2 ^ k % 2 ^ j) * 2 ^ k := by
  apply Nat.eq_of_testBit_eq
  intro i
  rw [Nat.testBit_and, ← Nat.shiftLeft_eq, ← Nat.shiftLeft_eq, Nat.testBit_shiftLeft, Nat.testBit_shiftLeft, ← Nat.shiftRight_eq_div_pow, Nat.testBit_two_pow_sub_one, Nat.testBit_mod_two_pow, Nat.testBit_shiftRight]
  by_cases h : k ≤ i
  · rw [Nat.add_sub_cancel' h]
    simp [h, Bool.and_comm]
  · simp [h]
theorem k_a32 {x : Int} (h : 0 ≤ x ∧ x ≤ 2147483647) : qAnd x 32 = x / 32 % 2 * 32 := by
  have e := q_and_n (x := x.toNat) (y := 32) (by omega) (by omega)
  rw [show ((x.toNat : Nat) : Int) = x by omega, show ((32 : Nat) : Int) = 32 from rfl, k_natm x.toNat 5 1] at e
  rw [e]
  omega
theorem k_a65280 {x : Int} (h : 0 ≤ x ∧ x ≤ 2147483647) : qAnd x 65280 = x / 256 % 256 * 256 := by
  have e := q_and_n (x := x.toNat) (y := 65280) (by omega) (by omega)
  rw [show ((x.toNat : Nat) : Int) = x by omega, show ((65280 : Nat) : Int) = 65280 from rfl, k_natm x.toNat 8 8] at e
  rw [e]
  omega
theorem k_or {a b : Int} (k : Nat) (ha : 0 ≤ a) (hb : 0 ≤ b ∧ b < 2 ^ k) (h : a * 2 ^ k + b ≤ 2147483647) : qOr (a * 2 ^ k) b = a * 2 ^ k + b := by
  obtain ⟨a, rfl⟩ := Int.eq_ofNat_of_zero_le ha
  obtain ⟨b, rfl⟩ := Int.eq_ofNat_of_zero_le hb.1
  have e0 : (a : Int) * 2 ^ k = ((a * 2 ^ k : Nat) : Int) := by simp
  have hb2 : b < 2 ^ k := by
    have := hb.2
    rw [show ((2 : Int) ^ k) = ((2 ^ k : Nat) : Int) by simp] at this
    omega
  rw [e0] at h ⊢
  have e := q_or_n (x := a * 2 ^ k) (y := b) (by omega) (by omega)
  rw [e, ← Nat.shiftLeft_eq, ← Nat.shiftLeft_add_eq_or_of_lt hb2]
  simp
theorem k_or_comm {a b : Int} (ha : 0 ≤ a ∧ a ≤ 2147483647) (hb : 0 ≤ b ∧ b ≤ 2147483647) : qOr a b = qOr b a := by
  obtain ⟨a, rfl⟩ := Int.eq_ofNat_of_zero_le ha.1
  obtain ⟨b, rfl⟩ := Int.eq_ofNat_of_zero_le hb.1
  rw [q_or_n (by omega) (by omega), q_or_n (by omega) (by omega), Nat.or_comm]
theorem k_or16 {a b : Int} (ha : 0 ≤ a ∧ a ≤ 30000) (hb : 0 ≤ b ∧ b < 65536) : qOr b (a * 65536) = a * 65536 + b := by
  rw [k_or_comm ⟨by omega, by omega⟩ ⟨by omega, by omega⟩]
  exact k_or 16 ha.1 ⟨hb.1, by have : (2 : Int) ^ 16 = 65536 := rfl; omega⟩ (by have : (2 : Int) ^ 16 = 65536 := rfl; omega)
theorem k_or14 {a b : Int} (ha : 0 ≤ a ∧ a ≤ 30000) (hb : 0 ≤ b ∧ b < 16384) : qOr b (a * 16384) = a * 16384 + b := by
  rw [k_or_comm ⟨by omega, by omega⟩ ⟨by omega, by omega⟩]
  exact k_or 14 ha.1 ⟨hb.1, by have : (2 : Int) ^ 14 = 16384 := rfl; omega⟩ (by have : (2 : Int) ^ 14 = 16384 := rfl; omega)
theorem k_or8 {a b : Int} (ha : 0 ≤ a ∧ a ≤ 30000) (hb : 0 ≤ b ∧ b < 256) : qOr (a * 256) b = a * 256 + b :=
  k_or 8 ha.1 ⟨hb.1, by have : (2 : Int) ^ 8 = 256 := rfl; omega⟩ (by have : (2 : Int) ^ 8 = 256 := rfl; omega)
/-! longs: the 64 bits as a number -/
def kU (x : Int) : Nat := (x % 18446744073709551616).toNat
theorem kU_bv (x : Int) : (Int64.ofInt x).toBitVec.toNat = kU x := by
  rw [Int64.toBitVec_ofInt, BitVec.toNat_ofInt]
  rfl
theorem kU_lt (x : Int) : kU x < 2 ^ 64 := by
  have := Int.emod_lt_of_pos x (show (0 : Int) < 18446744073709551616 by decide)
  have := Int.emod_nonneg x (show (18446744073709551616 : Int) ≠ 0 by decide)
  unfold kU
  omega
theorem kU_of {n : Nat} (h : n < 2 ^ 64) : kU (n : Int) = n := by
  unfold kU
  omega
theorem kU_to (x : Int64) : kU x.toInt = x.toBitVec.toNat := by
  rw [← kU_bv, Int64.ofInt_toInt]
theorem kU_or (x y : Int) : kU (qOrL x y) = kU x ||| kU y := by
  unfold qOrL
  rw [kU_to, Int64.toBitVec_or, BitVec.toNat_or, kU_bv, kU_bv]
theorem kU_wl (x : Int) : kU (qWl x) = kU x := by
  unfold qWl
  rw [kU_to, kU_bv]
theorem kU_inj {x y : Int} (hx : qIl x) (hy : qIl y) (h : kU x = kU y) : x = y := by
  unfold kU at h
  have := hx.1; have := hx.2; have := hy.1; have := hy.2
  omega
theorem kU_div (x : Int) {s j : Nat} (h : s + j ≤ 64) : x / 2 ^ s % 2 ^ j = ((kU x / 2 ^ s % 2 ^ j : Nat) : Int) := by
  have e : x = (kU x : Int) + 2 ^ s * (2 ^ (64 - s) * (x / 18446744073709551616)) := by
    rw [← Int.mul_assoc, ← Int.pow_add, Nat.add_sub_cancel' (by omega)]
    unfold kU
    have := Int.emod_nonneg x (show (18446744073709551616 : Int) ≠ 0 by decide)
    rw [Int.toNat_of_nonneg this]
    have := Int.emod_add_mul_ediv x 18446744073709551616
    omega
  have hs : ((2 : Int) ^ s) ≠ 0 := by have := qw_p s; omega
  have e2 : x / 2 ^ s = (kU x : Int) / 2 ^ s + 2 ^ (64 - s) * (x / 18446744073709551616) := by
    conv => lhs; rw [e]
    rw [Int.add_mul_ediv_left _ _ hs]
  rw [e2]
  have hd : ((2 : Int) ^ j) ∣ 2 ^ (64 - s) * (x / 18446744073709551616) := by
    refine Int.dvd_mul_of_dvd_left ⟨2 ^ (64 - s - j), ?_⟩ 
    rw [← Int.pow_add, Nat.add_sub_cancel' (by omega)]
  obtain ⟨q, hq⟩ := hd
  rw [hq, Int.add_mul_emod_self_left]
  simp
/-- numbers of b bits, one behind another -/
def kP (b : Nat) (e : Nat → Nat) : Nat → Nat
  | 0 => 0
  | n + 1 => kP b e n + e n * 2 ^ (b * n)
theorem kP_lt {b : Nat} {e : Nat → Nat} : ∀ {n : Nat}, (∀ i, i < n → e i < 2 ^ b) → kP b e n < 2 ^ (b * n)
  | 0, _ => by simp [kP]
  | n + 1, h => by
    have ih := kP_lt (b := b) (e := e) (n := n) (fun i hi => h i (by omega))
    have h1 := h n (by omega)
    show kP b e n + e n * 2 ^ (b * n) < 2 ^ (b * (n + 1))
    rw [Nat.mul_add, Nat.pow_add, Nat.mul_one]
    have : (e n + 1) * 2 ^ (b * n) ≤ 2 ^ b * 2 ^ (b * n) := Nat.mul_le_mul_right _ (by omega)
    rw [Nat.add_mul, Nat.one_mul] at this
    rw [Nat.mul_comm (2 ^ (b * n)) (2 ^ b)]
    omega
theorem kP_or {b : Nat} {e : Nat → Nat} {n : Nat} (h : ∀ i, i < n → e i < 2 ^ b) : kP b e n ||| e n * 2 ^ (b * n) = kP b e (n + 1) := by
  have h1 := kP_lt h
  rw [Nat.or_comm, ← Nat.shiftLeft_eq, ← Nat.shiftLeft_add_eq_or_of_lt h1, Nat.shiftLeft_eq, Nat.add_comm]
  rfl
theorem kP_at {b : Nat} {e : Nat → Nat} : ∀ {n : Nat}, (∀ i, i < n → e i < 2 ^ b) → ∀ i, i < n → kP b e n / 2 ^ (b * i) % 2 ^ b = e i
  | 0, _, i, hi => absurd hi (Nat.not_lt_zero i)
  | n + 1, h, i, hi => by
    have hn := kP_lt (b := b) (e := e) (n := n) (fun i hi => h i (by omega))
    show (kP b e n + e n * 2 ^ (b * n)) / 2 ^ (b * i) % 2 ^ b = e i
    by_cases q : i = n
    · subst q
      rw [Nat.add_mul_div_right _ _ (Nat.pow_pos (by decide)), Nat.div_eq_of_lt hn, Nat.zero_add]
      exact Nat.mod_eq_of_lt (h i (by omega))
    · have ih := kP_at (b := b) (e := e) (n := n) (fun i hi => h i (by omega)) i (by omega)
      have e1 : e n * 2 ^ (b * n) = (2 ^ b * (e n * 2 ^ (b * (n - i - 1)))) * 2 ^ (b * i) := by
        have : b * n = b + (b * (n - i - 1) + b * i) := by
          have : n = 1 + ((n - i - 1) + i) := by omega
          conv => lhs; rw [this, Nat.mul_add, Nat.mul_add, Nat.mul_one]
        rw [this, Nat.pow_add, Nat.pow_add]
        simp [Nat.mul_assoc, Nat.mul_comm, Nat.mul_left_comm]
      rw [e1, Nat.add_mul_div_right _ _ (Nat.pow_pos (by decide)), Nat.add_mul_mod_self_left]
      exact ih
theorem kP_cg {b : Nat} {e e' : Nat → Nat} : ∀ {n : Nat}, (∀ i, i < n → e i = e' i) → kP b e n = kP b e' n
  | 0, _ => rfl
  | n + 1, h => by
    show kP b e n + e n * 2 ^ (b * n) = kP b e' n + e' n * 2 ^ (b * n)
    rw [kP_cg (n := n) (fun i hi => h i (by omega)), h n (by omega)]
theorem kP_inj {b : Nat} {e e' : Nat → Nat} {n : Nat} (h : ∀ i, i < n → e i < 2 ^ b) (h' : ∀ i, i < n → e' i < 2 ^ b) (q : kP b e n = kP b e' n) : ∀ i, i < n → e i = e' i := fun i hi => by
  rw [← kP_at h i hi, ← kP_at h' i hi, q]
