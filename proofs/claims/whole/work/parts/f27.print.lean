/-! ===== print ===== -/
def y_z8 (k : Nat) (s : Int) : Bool := c_scb k s || ((Nat.beq k 10 && decide (s = 9)) || (Nat.beq k 11 && decide (73 ≤ s ∧ s ≤ 76)) || (Nat.ble 118 k && Nat.ble k 135))
def y_X8 (M : qM) : qM := fun k m s => bif y_z8 k s then 0 else M k m s
theorem y_X8_eq {M N : qM} (h : ∀ (k : Nat) (m s : Int), ¬ c_scr k s → ¬ (k = 10 ∧ s = 9) → ¬ (k = 11 ∧ 73 ≤ s ∧ s ≤ 76) → ¬ (118 ≤ k ∧ k ≤ 135) → N k m s = M k m s) : y_X8 N = y_X8 M := by
  funext k m s
  unfold y_X8
  by_cases q : c_scr k s
  · have e : y_z8 k s = true := by unfold y_z8; rw [c_scb_of q]; rfl
    rw [e]; rfl
  · by_cases q1 : k = 10 ∧ s = 9
    · obtain ⟨e1, e2⟩ := q1; subst e1; subst e2; rfl
    · by_cases q2 : k = 11 ∧ 73 ≤ s ∧ s ≤ 76
      · obtain ⟨e1, e2⟩ := q2
        subst e1
        have e : y_z8 11 s = true := by unfold y_z8; rw [decide_eq_true e2]; cases c_scb 11 s <;> rfl
        rw [e]; rfl
      · by_cases q3 : 118 ≤ k ∧ k ≤ 135
        · have e : y_z8 k s = true := by unfold y_z8; rw [Nat.ble_eq_true_of_le q3.1, Nat.ble_eq_true_of_le q3.2]; simp
          rw [e]; rfl
        · rw [h k m s q q1 q2 q3]
theorem y_cg8 {P : qM → Prop} (hP : ∀ M, P (y_X8 M) = P M) {M N : qM} (h : y_X8 N = y_X8 M) (p : P M) : P N := by
  rw [← hP N, h, hP M]; exact p
theorem t217z {d : Nat} {h : qH} (hS : qSe h) {M : qM} {F : Int → qM → Prop} (no : M 11 0 22 = 0) (H : ∀ N, N = qU M 11 0 0 1 → F 0 N) : e217 (d + 6) h M F := by
  refine w217 hS (fun x hx M1 f1 => ?_)
  have v0 : M1 11 0 0 = x := by rw [f1, qU_s]
  rw [v0]
  rw [if_pos no] at hx
  exact ⟨fun q => by omega, fun _ => H M1 (by rw [f1, hx])⟩
theorem y105 {d d' : Nat} {h : qH} (hS : qSe h) {n : Int} {B : pT} {M : qM} (hn : n < 512) (hr : c_rl n B M) : e105 (d + 2) h M (p_ok (n + 1) (e217 (d' + 6) h)) (p_ex (n + 1) (e217 (d' + 6) h) 0 1 0) := by
  have hB := hr.1.2.1
  have hB2 := hr.1.2.2
  have mk := hr.2.1.2.1
  have b13 := (y_b hr).2.2.1
  refine w105 hS (t138 hS (fun h13 => ?_) (fun h13 => Or.inr (Or.inl ⟨rfl, by decide, p_exc hn hr (fun F H => t217z hS (b13.mp h13) (fun N f => H 0 N f))⟩)))
  · obtain ⟨en, W, R, L, mdx⟩ := y_mdx hr h13
    have mw := y_mw hr mdx
    have tt := y_tot hB mdx
    have pb := c_p0_b hB
    have ed := hr.2.2.1.2.2.2
    have e8 := mdx.1
    have h22 : M 11 0 22 ≠ 0 := fun z => h13 (b13.mpr z)
    have he : en = 0 ∨ en = 1 := by obtain ⟨e0, g1, g2⟩ := ed; omega
    have e81 : M 10 0 8 - 1 = en := by omega
    refine ⟨fun z => by omega, fun _ => ⟨by omega, fun M1 f1 => ?_⟩, fun z => by omega⟩
    have O1 : ∀ (k : Nat) (m s : Int), ¬ (k = 10 ∧ m = 0 ∧ s = 9) → M1 k m s = M k m s := fun k m s q => by rw [f1]; unfold qU; rw [if_neg q]
    have e82 : M1 10 0 8 = en + 1 := by rw [O1 _ _ _ (by omega)]; exact e8
    have e83 : M1 10 0 8 - 1 = en := by omega
    have v9 : M1 10 0 9 = en + 1 := by rw [f1, qU_s]; omega
    rw [e83, O1 3 _ _ (by omega), tt.2.1]
    refine ⟨fun z => by omega, fun _ M2 f2 => ?_, fun z => by omega⟩
    have O2 : ∀ (k : Nat) (m s : Int), ¬ (k = 10 ∧ m = 0 ∧ s = 9) → k ≠ 138 → M2 k m s = M k m s := fun k m s q q2 => by rw [f2, qU_k q2, O1 k m s q]
    have x2 : y_X8 M2 = y_X8 M := y_X8_eq (fun k m s q q1 q2 q3 => O2 k m s (fun z => q1 ⟨z.1, z.2.2⟩) (fun z => q (Or.inl z)))
    have mk2 : m_bk B M2 := y_cg8 (P := m_bk B) (fun _ => rfl) x2 mk
    have e22 : M2 11 0 22 = M 11 0 22 := O2 _ _ _ (by omega) (by omega)
    refine t217 hS (B := B) (R := R) (tot := c_tot B R L) hB2 mk2 (fun _ => y_cg8 (P := b_pl (c_K B) (c_G B R)) (fun _ => rfl) x2 mw.2.1) (fun y y0 y1 z => by have := mw.2.2.1 y y0 y1 z; omega) (fun _ => ⟨by rw [O2 _ _ _ (by omega) (by omega)]; exact tt.1, by omega, by omega⟩) (fun z => absurd (e22.symm.trans z) h22) (fun _ N ON v0 cpy => ?_)
    have ON' : ∀ (k : Nat) (m s : Int), ¬ c_scr k s → ¬ (k = 10 ∧ s = 9) → ¬ (k = 11 ∧ 73 ≤ s ∧ s ≤ 76) → ¬ (118 ≤ k ∧ k ≤ 135) → N k m s = M k m s := fun k m s q q1 q2 q3 => by
      rw [ON k m s (fun z => by
        rcases z.2 with ⟨z1, z2 | z2⟩ | z2
        · exact q (Or.inr (Or.inr (Or.inr (Or.inr (Or.inr (Or.inr ⟨z1, Or.inl z2⟩))))))
        · exact q2 ⟨z1, z2⟩
        · exact q3 z2)]
      exact O2 k m s (fun z => q1 ⟨z.1, z.2.2⟩) (fun z => q (Or.inl z))
    have xN : y_X8 N = y_X8 M := y_X8_eq ON'
    obtain ⟨⟨h0, _, _⟩, ⟨a1, a2, a3⟩, ⟨b1, b2, b3, b4⟩, h4, h5, h6, h7⟩ := hr
    have mdx' := mdx
    obtain ⟨m1, m2, m3, m4, m5, m6, m7⟩ := mdx'
    have o68 : ∀ x, N 68 0 x = M 68 0 x := fun x => ON' 68 0 x (by unfold c_scr; omega) (by omega) (by omega) (by omega)
    have o120 : ∀ x, 0 ≤ x → x < 30 → N 120 0 x = M 68 0 x := fun x x0 x1 => by rw [cpy.2.2.1 x x0 x1, O2 _ _ _ (by omega) (by omega)]
    have n14 : N 10 0 14 = M 10 0 14 := ON' 10 0 14 (by unfold c_scr; omega) (by omega) (by omega) (by omega)
    have edN : c_edn B R (c_tot B R L) en N := y_cg8 (P := c_edn B R (c_tot B R L) en) (fun _ => rfl) xN m4
    refine ⟨v0, rfl, ?_, B, ⟨⟨by omega, by omega⟩, hB, hB2⟩, ⟨y_cg8 (P := c_bk B) (fun _ => rfl) xN a1, y_cg8 (P := m_bk B) (fun _ => rfl) xN a2, y_cg8 (P := c_ms B) (fun _ => rfl) xN a3⟩, ⟨y_cg8 (P := c_dr) (fun _ => rfl) xN b1, y_cg8 (P := c_al) (fun _ => rfl) xN b2, y_cg8 (P := c_lm) (fun _ => rfl) xN b3, y_cg8 (P := c_ed) (fun _ => rfl) xN b4⟩, c_ser_up (by omega) (y_cg8 (P := c_ser n B) (fun _ => rfl) xN h4), y_cg8 (P := c_bs B) (fun _ => rfl) xN h5, Or.inr ⟨B, W, R, L, en, M2, ?_, he, ⟨⟨hB, hB2⟩, m3, m2, edN, cpy, y_cg8 (P := m_now B W R L) (fun _ => rfl) x2 m6, ⟨fun c _ _ => Int.le_refl _, fun x _ _ _ _ => ⟨rfl, rfl, fun w _ _ => ⟨rfl, rfl⟩⟩⟩, fun x x0 x1 t => ?_⟩, fun x x0 x1 t => ?_⟩, Or.inr ⟨?_, ?_, en, W, R, L, ?_, m2, m3, edN, y_cg8 (P := c_now B W R L) (fun _ => rfl) xN m5, y_cg8 (P := m_now B W R L) (fun _ => rfl) xN m6, y_cg8 (P := fun M => M 2 0 9 = M 11 0 23 ∧ M 2 0 10 = M 11 0 21 ∧ (M 2 0 10 = 0 ∨ M 2 0 10 = 1)) (fun _ => rfl) xN m7⟩⟩
    · rw [ON _ _ _ (by omega), f2, qU_s]
    · rw [ON _ _ _ (by omega), f2, qU_k (by decide)]; exact v9
    · rw [o68, o120 x x0 x1]; exact ⟨fun _ => rfl, fun _ => rfl⟩
    · rw [o68, o120 x x0 x1, n14]; exact ⟨Int.le_refl _, (h4.2.1 x x0 x1).2⟩
    · rcases h7 with z | z
      · exact absurd z.1 h13
      · rw [ON' 10 0 13 (by unfold c_scr; omega) (by omega) (by omega) (by omega)]; exact z.1
    · rcases h7 with z | z
      · exact absurd z.1 h13
      · rw [ON' 11 0 22 (by unfold c_scr; omega) (by omega) (by omega) (by omega)]; exact z.2.1
    · exact y_cg8 (P := fun M => M 10 0 8 = en + 1) (fun _ => rfl) xN m1
