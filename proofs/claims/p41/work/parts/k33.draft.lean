/-! ===== the law lays its draft down ===== -/
section
variable {d : Nat} {h : qH} {M : qM}
/-- how many words of the first i lie in the q-th long -/
def k_cq (i q : Int) : Int := if i ≤ 5 * q then 0 else if i ≤ 5 * q + 5 then i - 5 * q else 5
theorem L227 {F : qM → Prop} {it n : Int} (hS : qSe h) (h18 : 0 ≤ it ∧ it < 18) (h0 : M 76 0 0 = n) (hn : 0 ≤ n ∧ n ≤ 15) (h65 : 0 ≤ M 65 0 it ∧ M 65 0 it ≤ 2147483647) (hd : ∀ i, 0 ≤ i → i < n → 0 ≤ M 79 0 i ∧ M 79 0 i < 2048)
    (H : ∀ M', (∀ (k : Nat) (o s : Int), ¬ (k = 64 ∧ o = 0 ∧ 3 * it ≤ s ∧ s < 3 * it + 3) → ¬ (k = 65 ∧ o = 0 ∧ s = it) → ¬ (k = 76 ∧ o = 0 ∧ (s = 0 ∨ s = 4)) → M' k o s = M k o s) → (∀ w, 0 ≤ w → w < n → k_cd M' it w = M 79 0 w) → M' 65 0 it = M 65 0 it / 256 % 256 * 256 + n → M' 76 0 0 = 0 → M' 76 0 4 = 0 → F M') : e227 (d + 1) h it M F := by
  refine w227 hS ?_
  have e11 : ∀ (q : Int) (j : Nat), 0 ≤ q → 5 * q + j < n → (fun j : Nat => (M 79 0 (5 * q + j)).toNat) j < 2 ^ 11 := fun q j q0 hj => by
    have := hd (5 * q + j) (by omega) hj
    show (M 79 0 (5 * q + (j : Int))).toNat < 2 ^ 11
    omega
  have words : ∀ (m : Nat) (i : Int) (M2 : qM), n - i ≤ m → (0 ≤ i ∧ i ≤ n) → (∀ (k : Nat) (o s : Int), ¬ (k = 64 ∧ o = 0 ∧ 3 * it ≤ s ∧ s < 3 * it + 3) → M2 k o s = M k o s) → (∀ q, 0 ≤ q → q < 3 → kU (M2 64 0 (3 * it + q)) = kP 11 (fun j => (M 79 0 (5 * q + j)).toNat) (k_cq i q).toNat) → b227_28 d h F it i M2 := by
    have fin : ∀ (M2 : qM), (∀ (k : Nat) (o s : Int), ¬ (k = 64 ∧ o = 0 ∧ 3 * it ≤ s ∧ s < 3 * it + 3) → M2 k o s = M k o s) → (∀ q, 0 ≤ q → q < 3 → kU (M2 64 0 (3 * it + q)) = kP 11 (fun j => (M 79 0 (5 * q + j)).toNat) (k_cq n q).toNat) → b227_28 d h F it n M2 := by
      intro M2 O2 e2
      have v0 : M2 76 0 0 = n := by rw [O2 _ _ _ (by omega)]; exact h0
      refine w227_28 hS ?_
      rw [v0]
      refine ⟨fun z => absurd z (Int.lt_irrefl _), fun _ => ⟨h18, h18, fun M3 f3 M4 f4 M5 f5 => ?_⟩⟩
      rw [O2 65 _ _ (by omega), k_a65280 h65, k_or8 ⟨by omega, by omega⟩ ⟨by omega, by omega⟩] at f3
      have O5 : ∀ (k : Nat) (o s : Int), ¬ (k = 65 ∧ o = 0 ∧ s = it) → ¬ (k = 76 ∧ o = 0 ∧ (s = 0 ∨ s = 4)) → M5 k o s = M2 k o s := fun k o s z1 z2 => by
        rw [f5]; unfold qU; rw [if_neg (fun y => z2 ⟨y.1, y.2.1, Or.inr y.2.2⟩), f4]; unfold qU; rw [if_neg (fun y => z2 ⟨y.1, y.2.1, Or.inl y.2.2⟩), f3]; unfold qU; rw [if_neg z1]
      refine H M5 (fun k o s z1 z2 z3 => by rw [O5 k o s z2 z3]; exact O2 k o s z1) (fun w w0 w1 => ?_) (by rw [f5, qU_k (by decide), f4, qU_k (by decide), f3, qU_s]) (by rw [f5, qU_l (by decide), f4, qU_s]) (by rw [f5, qU_s])
      unfold k_cd
      rw [O5 _ _ _ (by omega) (by omega)]
      obtain ⟨j, hj⟩ : ∃ j : Nat, w = 5 * (w / 5) + j := ⟨(w % 5).toNat, by omega⟩
      have j5 : j < 5 := by omega
      have dv := kU_div (M2 64 0 (3 * it + w / 5)) (s := 11 * j) (j := 11) (by omega)
      rw [show ((2 : Int) ^ 11) = 2048 from rfl] at dv
      rw [show (11 * (w % 5)).toNat = 11 * j by omega, dv, e2 (w / 5) (by omega) (by omega)]
      have cq : (k_cq n (w / 5)).toNat ≤ 5 ∧ j < (k_cq n (w / 5)).toNat ∧ 5 * (w / 5) + ((k_cq n (w / 5)).toNat : Int) ≤ n := by
        unfold k_cq
        rw [if_neg (by omega)]
        split <;> omega
      have at' := kP_at (b := 11) (e := fun j : Nat => (M 79 0 (5 * (w / 5) + j)).toNat) (n := (k_cq n (w / 5)).toNat) (fun m hm => e11 (w / 5) m (by omega) (by omega)) j cq.2.1
      rw [at']
      have b := hd w w0 w1
      show (((M 79 0 (5 * (w / 5) + (j : Int))).toNat : Nat) : Int) = M 79 0 w
      rw [← hj]
      omega
    intro m
    induction m with
    | zero =>
      intro i M2 hm hi O2 e2
      have e : i = n := by omega
      subst e
      exact fin M2 O2 e2
    | succ m ihm =>
      intro i M2 hm hi O2 e2
      by_cases e : i = n
      · subst e
        exact fin M2 O2 e2
      have v0 : M2 76 0 0 = n := by rw [O2 _ _ _ (by omega)]; exact h0
      refine w227_28 hS ?_
      rw [v0]
      refine ⟨fun _ => ⟨⟨by omega, by omega⟩, hi.1, ⟨by omega, by omega⟩, ⟨by omega, by omega⟩, ⟨by omega, by omega⟩, hi.1, ⟨by omega, by omega⟩, ⟨by omega, by omega⟩, ⟨by omega, by omega⟩, fun M3 f3 => ⟨⟨by omega, by omega⟩, ?_⟩⟩, fun z => absurd (show i < n by omega) z⟩
      refine ihm (i + 1) M3 (by omega) ⟨by omega, by omega⟩ (fun k o s z => by rw [f3]; unfold qU; rw [if_neg (fun y => z ⟨y.1, y.2.1, by omega, by omega⟩)]; exact O2 k o s z) (fun q q0 q1 => ?_)
      by_cases eq : q = i / 5
      · obtain ⟨j, hj⟩ : ∃ j : Nat, i = 5 * (i / 5) + j := ⟨(i % 5).toNat, by omega⟩
        have j5 : j < 5 := by omega
        have b := hd i hi.1 (by omega)
        obtain ⟨v, hv⟩ : ∃ v : Nat, M 79 0 i = v := ⟨(M 79 0 i).toNat, by omega⟩
        have e79 : M2 79 0 i = v := by rw [O2 _ _ _ (by omega)]; exact hv
        have c1 : (k_cq i (i / 5)).toNat = j := by
          unfold k_cq
          by_cases a : i ≤ 5 * (i / 5)
          · rw [if_pos a]; omega
          · rw [if_neg a, if_pos (by omega)]; omega
        have c2 : (k_cq (i + 1) (i / 5)).toNat = j + 1 := by unfold k_cq; rw [if_neg (by omega), if_pos (by omega)]; omega
        have old := e2 (i / 5) (by omega) (by omega)
        rw [c1] at old
        have lt64 : v * 2 ^ (11 * j) < 2 ^ 64 := by
          have a : v < 2 ^ 11 := by omega
          have b : 2 ^ (11 * j) ≤ 2 ^ 44 := Nat.pow_le_pow_right (by decide) (by omega)
          calc v * 2 ^ (11 * j) ≤ v * 2 ^ 44 := Nat.mul_le_mul_left _ b
            _ < 2 ^ 11 * 2 ^ 44 := Nat.mul_lt_mul_of_pos_right a (by decide)
            _ ≤ 2 ^ 64 := by decide
        rw [eq, f3, qU_s, kU_or, old, kU_wl, e79, show (11 * (i % 5)).toNat = 11 * j by omega, show (v : Int) * 2 ^ (11 * j) = ((v * 2 ^ (11 * j) : Nat) : Int) by simp, kU_of lt64, c2]
        have o := kP_or (b := 11) (e := fun j : Nat => (M 79 0 (5 * (i / 5) + j)).toNat) (n := j) (fun m hm => e11 (i / 5) m (by omega) (by omega))
        have ev : (M 79 0 (5 * (i / 5) + (j : Int))).toNat = v := by rw [← hj, hv]; rfl
        rw [← o, ev]
      · rw [f3, qU_l (by omega), e2 q q0 q1]
        have c : (k_cq (i + 1) q).toNat = (k_cq i q).toNat := by
          unfold k_cq
          by_cases a : i ≤ 5 * q
          · rw [if_pos a, if_pos (by omega)]
          · rw [if_neg a, if_neg (by omega)]
            by_cases b : i ≤ 5 * q + 5
            · rw [if_pos b]
              split <;> omega
            · rw [if_neg b, if_neg (by omega)]
        rw [c]
  refine q_upto (P := fun q => ∀ M1 : qM, 0 ≤ q → (∀ (k : Nat) (o s : Int), ¬ (k = 64 ∧ o = 0 ∧ 3 * it ≤ s ∧ s < 3 * it + 3) → M1 k o s = M k o s) → (∀ p, 0 ≤ p → p < q → M1 64 0 (3 * it + p) = 0) → b227_3 d h F it q M1) (a := 0) (b := 3) (by decide) (fun M1 _ O1 z1 => ?_) (fun q q0 q1 ih M1 _ O1 z1 => ?_) M (Int.le_refl _) (fun _ _ _ _ => rfl) (fun p a b => by omega)
  · refine w227_3 hS ⟨fun z => absurd z (by decide), fun _ => words n.toNat 0 M1 (by omega) ⟨Int.le_refl _, hn.1⟩ O1 (fun q q0 q1 => ?_)⟩
    rw [z1 q q0 q1]
    have c : (k_cq 0 q).toNat = 0 := by unfold k_cq; rw [if_pos (by omega)]; rfl
    rw [c]; rfl
  · refine w227_3 hS ⟨fun _ => ⟨⟨by omega, by omega⟩, ⟨by omega, by omega⟩, ⟨by omega, by omega⟩, fun M2 f2 => ⟨⟨by omega, by omega⟩, ih M2 (by omega) (fun k o s z => by rw [f2]; unfold qU; rw [if_neg (fun y => z ⟨y.1, y.2.1, by omega, by omega⟩)]; exact O1 k o s z) (fun p a b => ?_)⟩⟩, fun z => absurd q1 z⟩
    by_cases e : p = q
    · subst e; rw [f2, qU_s]
    · rw [f2, qU_l (by omega)]; exact z1 p a (by omega)
end
