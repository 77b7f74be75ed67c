/-! ===== pairs that change the draft ===== -/
theorem y_add {n w k v c : Int} {B : pT} {M N : qM} (hr : c_rl n B M) (hc : M 5 0 2 = c) (c20 : c < 20) (cw : c_word w k v) (f : ∀ (kk : Nat) (m s : Int), ¬ c_scr kk s → ¬ (kk = 5 ∧ m = 0 ∧ s = 2) → ¬ (32 ≤ kk ∧ kk ≤ 34 ∧ m = 0 ∧ s = c) → ¬ (72 ≤ kk ∧ kk ≤ 74 ∧ m = 0 ∧ s = c) → ¬ (kk = 11 ∧ s = 12) → N kk m s = M kk m s) (v1 : N 5 0 2 = c + 1 ∧ N 11 0 12 = c + 1) (v2 : N 32 0 c = w ∧ N 33 0 c = k ∧ N 34 0 c = v) (v3 : N 72 0 c = w ∧ N 73 0 c = k ∧ N 74 0 c = v) : c_rl n B N := by
  obtain ⟨d1, d2, d3⟩ := hr.2.2.1.1
  have lm := hr.2.2.1.2.2.1.1
  refine c_rl_dr hr (fun kk m s q1 q2 q3 q4 q5 => f kk m s q1 q2 (fun z => q3 ⟨z.1, z.2.1, z.2.2.1⟩) (fun z => q4 ⟨z.1, z.2.1⟩) q5) ⟨by omega, by omega, fun x x0 x1 => ?_⟩ ⟨fun it i => ?_, fun it => ?_⟩
  · by_cases e : x = c
    · subst e
      rw [v2.1, v2.2.1, v2.2.2, v3.1, v3.2.1, v3.2.2]
      exact ⟨rfl, rfl, rfl, cw⟩
    · have o : ∀ kk : Nat, (32 ≤ kk ∧ kk ≤ 34) ∨ (72 ≤ kk ∧ kk ≤ 74) → N kk 0 x = M kk 0 x := fun kk q => f kk 0 x (by unfold c_scr; omega) (by omega) (by omega) (by omega) (by omega)
      rw [o 32 (by omega), o 33 (by omega), o 34 (by omega), o 72 (by omega), o 73 (by omega), o 74 (by omega)]
      exact d3 x x0 (by omega)
  · by_cases e : it = 0 ∧ i = c
    · rw [e.1, e.2, v2.1]; exact cw.1
    · rw [f 32 it i (by unfold c_scr; omega) (by omega) (by omega) (by omega) (by omega)]; exact lm.1 it i
  · by_cases e : it = 0
    · rw [e, v1.1]; omega
    · rw [f 5 it 2 (by unfold c_scr; omega) (by omega) (by omega) (by omega) (by omega)]; exact lm.2 it
