/-! ===== sets of numbers below 16, as bits ===== -/
theorem q_and_n {x y : Nat} (hx : x < 2147483648) (hy : y < 2147483648) : qAnd (x : Int) (y : Int) = ((x &&& y : Nat) : Int) := by
  unfold qAnd
  have h : ((Int32.ofInt (x : Int) &&& Int32.ofInt (y : Int)).toBitVec).toNat = x &&& y := by
    rw [Int32.toBitVec_and, Int32.toBitVec_ofInt, Int32.toBitVec_ofInt, BitVec.ofInt_natCast, BitVec.ofInt_natCast, BitVec.toNat_and, BitVec.toNat_ofNat, BitVec.toNat_ofNat, Nat.mod_eq_of_lt (by omega), Nat.mod_eq_of_lt (by omega)]
  show (Int32.ofInt (x : Int) &&& Int32.ofInt (y : Int)).toBitVec.toInt = _
  have hle : x &&& y ≤ x := Nat.and_le_left
  rw [BitVec.toInt_eq_toNat_of_lt (by omega), h]
theorem q_or_n {x y : Nat} (hx : x < 2147483648) (hy : y < 2147483648) : qOr (x : Int) (y : Int) = ((x ||| y : Nat) : Int) := by
  unfold qOr
  have h : ((Int32.ofInt (x : Int) ||| Int32.ofInt (y : Int)).toBitVec).toNat = x ||| y := by
    rw [Int32.toBitVec_or, Int32.toBitVec_ofInt, Int32.toBitVec_ofInt, BitVec.ofInt_natCast, BitVec.ofInt_natCast, BitVec.toNat_or, BitVec.toNat_ofNat, BitVec.toNat_ofNat, Nat.mod_eq_of_lt (by omega), Nat.mod_eq_of_lt (by omega)]
  show (Int32.ofInt (x : Int) ||| Int32.ofInt (y : Int)).toBitVec.toInt = _
  have hlt : x ||| y < 2 ^ 31 := Nat.or_lt_two_pow (by omega) (by omega)
  rw [BitVec.toInt_eq_toNat_of_lt (by omega), h]
/-- v as a set -/
def q_bs (v : Int) (x : Int) : Prop := v.toNat.testBit x.toNat = true
theorem q_and1 {v : Int} (hv : 0 ≤ v ∧ v < 65536) : qAnd v 1 = v % 2 := by
  have h := q_and_n (x := v.toNat) (y := 1) (by omega) (by omega)
  rw [show ((v.toNat : Nat) : Int) = v by omega] at h
  rw [show ((1 : Nat) : Int) = 1 from rfl] at h
  rw [h, Nat.and_one_is_mod]
  omega
theorem q_bs0 {v : Int} (hv : 0 ≤ v) : q_bs v 0 ↔ v % 2 = 1 := by
  unfold q_bs
  rw [show (0 : Int).toNat = 0 from rfl, Nat.testBit_zero, decide_eq_true_eq]
  omega
theorem q_bs_half {v x : Int} (hv : 0 ≤ v) (hx : 0 ≤ x) : q_bs (v / 2) x ↔ q_bs v (x + 1) := by
  unfold q_bs
  rw [show (x + 1).toNat = x.toNat + 1 by omega, Nat.testBit_succ, show (v / 2).toNat = v.toNat / 2 by omega]
theorem q_shr1 {v : Int} : v / 2 ^ ((1 : Int)).toNat = v / 2 := rfl
theorem q_bs_or {v w x : Int} (hv : 0 ≤ v ∧ v < 65536) (hw : 0 ≤ w ∧ w < 65536) : (0 ≤ qOr v w ∧ qOr v w < 65536) ∧ (q_bs (qOr v w) x ↔ q_bs v x ∨ q_bs w x) := by
  have h := q_or_n (x := v.toNat) (y := w.toNat) (by omega) (by omega)
  rw [show ((v.toNat : Nat) : Int) = v by omega, show ((w.toNat : Nat) : Int) = w by omega] at h
  have hlt : v.toNat ||| w.toNat < 2 ^ 16 := Nat.or_lt_two_pow (by omega) (by omega)
  rw [h]
  refine ⟨⟨by omega, by omega⟩, ?_⟩
  unfold q_bs
  rw [show (((v.toNat ||| w.toNat : Nat) : Int)).toNat = v.toNat ||| w.toNat from rfl, Nat.testBit_or, Bool.or_eq_true]
theorem q_bs_p {k x : Int} (hk : 0 ≤ k ∧ k ≤ 15) (hx : 0 ≤ x) : ((0 ≤ (1 : Int) * 2 ^ k.toNat ∧ (1 : Int) * 2 ^ k.toNat < 65536) ∧ (1 : Int) * 2 ^ k.toNat ≠ 0) ∧ (q_bs ((1 : Int) * 2 ^ k.toNat) x ↔ x = k) := by
  have e : (1 : Int) * 2 ^ k.toNat = ((2 ^ k.toNat : Nat) : Int) := by rw [Int.one_mul]; simp
  have h1 : 2 ^ k.toNat ≤ 2 ^ 15 := Nat.pow_le_pow_right (by decide) (by omega)
  have h2 : 0 < 2 ^ k.toNat := Nat.pow_pos (by decide)
  rw [e]
  refine ⟨⟨⟨by omega, by omega⟩, by omega⟩, ?_⟩
  unfold q_bs
  rw [show ((2 ^ k.toNat : Nat) : Int).toNat = 2 ^ k.toNat from rfl, Nat.testBit_two_pow, decide_eq_true_eq]
  omega
theorem q_bs_z {x : Int} : ¬ q_bs 0 x := by
  unfold q_bs
  rw [show (0 : Int).toNat = 0 from rfl, Nat.zero_testBit]
  decide
theorem q_bs_ne {v : Int} (hv : 0 ≤ v ∧ v < 65536) : v ≠ 0 ↔ ∃ x, (0 ≤ x ∧ x ≤ 15) ∧ q_bs v x := by
  refine ⟨fun h => ?_, fun ⟨x, _, hx⟩ hz => ?_⟩
  · obtain ⟨i, hi⟩ := Nat.exists_testBit_of_ne_zero (show v.toNat ≠ 0 by omega)
    have : i < 16 := by
      refine Classical.byContradiction fun z => ?_
      have := Nat.testBit_lt_two_pow (x := v.toNat) (i := i) (Nat.lt_of_lt_of_le (show v.toNat < 2 ^ 16 by omega) (Nat.pow_le_pow_right (by decide) (by omega)))
      rw [this] at hi
      cases hi
    exact ⟨i, by omega, hi⟩
  · rw [hz] at hx; exact q_bs_z hx
theorem q_and2 {v : Int} (hv : 0 ≤ v ∧ v < 65536) : qAnd v (-2) = 0 ↔ v / 2 = 0 := by
  have h : ((Int32.ofInt v &&& Int32.ofInt (-2)).toBitVec).toNat = v.toNat &&& 4294967294 := by
    rw [Int32.toBitVec_and, Int32.toBitVec_ofInt, Int32.toBitVec_ofInt, BitVec.toNat_and, show v = ((v.toNat : Nat) : Int) by omega, BitVec.ofInt_natCast, BitVec.toNat_ofNat, Nat.mod_eq_of_lt (by omega)]
    rfl
  have hle : v.toNat &&& 4294967294 ≤ v.toNat := Nat.and_le_left
  have e : qAnd v (-2) = ((v.toNat &&& 4294967294 : Nat) : Int) := by
    show (Int32.ofInt v &&& Int32.ofInt (-2)).toBitVec.toInt = _
    rw [BitVec.toInt_eq_toNat_of_lt (by omega), h]
  rw [e]
  refine ⟨fun hz => ?_, fun hz => ?_⟩
  · refine Classical.byContradiction fun hne => ?_
    obtain ⟨i, hi⟩ := Nat.exists_testBit_of_ne_zero (show v.toNat / 2 ≠ 0 by omega)
    have h1 : v.toNat.testBit (i + 1) = true := by rw [Nat.testBit_succ]; exact hi
    have hi2 : i + 1 < 16 := by
      refine Classical.byContradiction fun z => ?_
      have := Nat.testBit_lt_two_pow (x := v.toNat) (i := i + 1) (Nat.lt_of_lt_of_le (show v.toNat < 2 ^ 16 by omega) (Nat.pow_le_pow_right (by decide) (by omega)))
      rw [this] at h1
      cases h1
    have h2 : (4294967294 : Nat).testBit (i + 1) = true := by
      have key : ∀ j : Fin 16, (4294967294 : Nat).testBit (j.val + 1) = true := by decide
      exact key ⟨i, by omega⟩
    have h3 : (v.toNat &&& 4294967294).testBit (i + 1) = true := by rw [Nat.testBit_and, h1, h2]; rfl
    rw [show v.toNat &&& 4294967294 = 0 by omega, Nat.zero_testBit] at h3
    cases h3
  · have : v.toNat = 0 ∨ v.toNat = 1 := by omega
    rcases this with k | k <;> rw [k] <;> rfl
theorem q_and2b {v : Int} (hv : 0 ≤ v ∧ v < 65536) : qAnd v (-2) ≠ 0 ↔ ∃ x, (1 ≤ x ∧ x ≤ 15) ∧ q_bs v x := by
  have h := q_and2 hv
  refine ⟨fun hne => ?_, fun ⟨x, hx, hb⟩ hz => ?_⟩
  · obtain ⟨x, hx, hb⟩ := (q_bs_ne (v := v / 2) (by omega)).mp (fun z => hne (h.mpr z))
    have hb' := (q_bs_half hv.1 hx.1).mp hb
    refine ⟨x + 1, ⟨by omega, ?_⟩, hb'⟩
    refine Classical.byContradiction fun z => ?_
    have hx15 : x = 15 := by omega
    subst hx15
    have := Nat.testBit_lt_two_pow (x := v.toNat) (i := 16) (by omega)
    unfold q_bs at hb'
    rw [show ((15 : Int) + 1).toNat = 16 from rfl, this] at hb'
    cases hb'
  · have := h.mp hz
    have hb2 := (q_bs_half (v := v) (x := x - 1) hv.1 (by omega)).mpr (by rw [show x - 1 + 1 = x by omega]; exact hb)
    rw [this] at hb2
    exact q_bs_z hb2
