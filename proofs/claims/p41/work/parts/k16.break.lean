/-! ===== the law breaks an item ===== -/
theorem k_il (x : Int64) : qIl x.toInt := by
  have a := Int64.le_toInt x
  have b := Int64.toInt_lt x
  unfold qIl
  omega
section
variable {d : Nat} {h : qH} {f : qM → Prop} {M : qM} {it n W : Int} {w : Int → Int}
theorem L194 (hS : qSe h) (h18 : 0 ≤ it ∧ it < 18) (hn : M 65 0 it % 32 = n) (hn15 : n ≤ 15) (h65 : 0 ≤ M 65 0 it ∧ M 65 0 it ≤ 2147483647) (h66 : qIl (M 66 0 it)) (m1 : M 76 0 1 = W) (hW : 0 ≤ W ∧ W ≤ 30) (h9 : 0 ≤ M 76 0 9 ∧ M 76 0 9 ≤ 1000000)
    (hw : ∀ j, 0 ≤ j → j < n → (0 ≤ w j ∧ w j ≤ 15) ∧ k_cd M it j % 16 + M 68 0 (M 67 0 it + j) = w j ∧ (0 ≤ M 67 0 it + j ∧ M 67 0 it + j < 64) ∧ 0 ≤ M 68 0 (M 67 0 it + j) ∧ M 68 0 (M 67 0 it + j) ≤ 1000)
    (H1 : M 65 0 it / 65536 = W → kU (M 66 0 it) = kP 4 (fun j => (w j).toNat) n.toNat → f M)
    (H2 : ¬ (M 65 0 it / 65536 = W ∧ kU (M 66 0 it) = kP 4 (fun j => (w j).toNat) n.toNat) → ∀ M', (∀ (k : Nat) (o s : Int), ¬ ((k = 65 ∨ k = 66) ∧ o = 0 ∧ s = it) → ¬ (k = 76 ∧ o = 0 ∧ s = 9) → M' k o s = M k o s) → M' 65 0 it = W * 65536 + M 65 0 it % 65536 → kU (M' 66 0 it) = kP 4 (fun j => (w j).toNat) n.toNat → qIl (M' 66 0 it) → M' 76 0 9 = M 76 0 9 + 1 → f M') : e194 (d + 3) h it M f := by
  have n0 : 0 ≤ n := by omega
  have e16 : ∀ i : Nat, i < n.toNat → (fun j : Nat => (w j).toNat) i < 2 ^ 4 := fun i hi => by
    have := (hw i (by omega) (by omega)).1
    show (w (i : Int)).toNat < 2 ^ 4
    omega
  refine w194 hS ?_
  have anew : ∀ (x7 : Int) (u0 u3 u4 u9 : qV), kU x7 = kP 4 (fun j => (w j).toNat) n.toNat → qIl x7 → ¬ (M 65 0 it / 65536 = W ∧ kU (M 66 0 it) = kP 4 (fun j => (w j).toNat) n.toNat) → b194_70 d h f u0 u3 u4 it x7 u9 M := by
    intro x7 u0 u3 u4 u9 e7 q7 no
    refine w194_70 hS ⟨h18, fun M1 f1 => ⟨h18, ?_⟩⟩
    have v1 : M1 76 0 1 = W := by rw [f1, qU_k (by decide)]; exact m1
    have v65 : M1 65 0 it = M 65 0 it := by rw [f1, qU_k (by decide)]
    rw [v1, v65]
    refine ⟨⟨by omega, by omega⟩, h18, fun M2 f2 => ?_⟩
    rw [k_a65535, k_or16 ⟨by omega, by omega⟩ ⟨by omega, by omega⟩] at f2
    have v9 : M2 76 0 9 = M 76 0 9 := by rw [f2, qU_k (by decide), f1, qU_k (by decide)]
    rw [v9]
    refine ⟨⟨by omega, by omega⟩, fun M3 f3 => H2 no M3 (fun k o s z1 z2 => ?_) ?_ ?_ ?_ ?_⟩
    · rw [f3]; unfold qU; rw [if_neg z2, f2]; unfold qU; rw [if_neg (fun y => z1 ⟨Or.inl y.1, y.2⟩), f1]; unfold qU; rw [if_neg (fun y => z1 ⟨Or.inr y.1, y.2⟩)]
    · rw [f3, qU_k (by decide), f2, qU_s]
    · rw [f3, qU_k (by decide), f2, qU_k (by decide), f1, qU_s]; exact e7
    · rw [f3, qU_k (by decide), f2, qU_k (by decide), f1, qU_s]; exact q7
    · rw [f3, qU_s]
  refine q_upto (P := fun k => ∀ x7 : Int, 0 ≤ k → kU x7 = kP 4 (fun j => (w j).toNat) k.toNat → qIl x7 → b194_6 d h f it x7 k M) (a := 0) (b := n) n0 (fun x7 _ e7 q7 => ?_) (fun k k0 k1 ih x7 _ e7 q7 => ?_) 0 (Int.le_refl _) rfl (by unfold qIl; omega)
  · refine w194_6 hS (L189 hS h18 ?_)
    rw [hn]
    refine ⟨fun z => absurd z (Int.lt_irrefl _), fun _ => ⟨h18, ?_⟩⟩
    rw [m1]
    refine ⟨fun e => ⟨h18, fun z => H1 e ?_, fun z => anew _ _ _ _ _ e7 q7 (fun y => z ?_)⟩, fun e => anew _ _ _ _ _ e7 q7 (fun y => e y.1)⟩
    · have : M 66 0 it = x7 := by
        by_cases a : M 66 0 it < x7
        · rw [if_pos a] at z; omega
        · rw [if_neg a] at z
          by_cases b : M 66 0 it = x7
          · exact b
          · rw [if_neg b] at z; omega
      rw [this]; exact e7
    · have := kU_inj h66 q7 (by rw [y.2, e7])
      rw [if_neg (by omega), if_pos this]
  · have hk := hw k k0 k1
    refine w194_6 hS (L189 hS h18 ?_)
    rw [hn]
    refine ⟨fun _ => L192 hS h18 ⟨k0, by omega⟩ hk.2.2.1 hk.2.2.2 ?_, fun z => absurd k1 z⟩
    rw [hk.2.1]
    refine ⟨⟨by omega, by omega⟩, ⟨by omega, by omega⟩, ⟨by omega, by omega⟩, ih _ (by omega) ?_ (k_il _)⟩
    obtain ⟨m, hm⟩ : ∃ m : Nat, k = m := ⟨k.toNat, by omega⟩
    subst hm
    obtain ⟨v, hv⟩ : ∃ v : Nat, w m = v := ⟨(w m).toNat, by omega⟩
    rw [kU_or, e7, kU_wl, hv, show (4 * (m : Int)).toNat = 4 * m by omega, show (v : Int) * 2 ^ (4 * m) = ((v * 2 ^ (4 * m) : Nat) : Int) by simp]
    have lt : v * 2 ^ (4 * m) < 2 ^ 64 := by
      have a : v < 2 ^ 4 := by omega
      have b : 2 ^ (4 * m) ≤ 2 ^ 60 := Nat.pow_le_pow_right (by decide) (by omega)
      calc v * 2 ^ (4 * m) ≤ v * 2 ^ 60 := Nat.mul_le_mul_left _ b
        _ < 2 ^ 4 * 2 ^ 60 := Nat.mul_lt_mul_of_pos_right a (by decide)
        _ = 2 ^ 64 := by decide
    rw [kU_of lt]
    have o := kP_or (b := 4) (e := fun j : Nat => (w j).toNat) (n := m) (fun i hi => e16 i (by omega))
    rw [show ((m : Int) + 1).toNat = m + 1 by omega, ← o, Int.toNat_natCast, hv]
    rfl
end
