/-! ===== setMeasures, setByPage, seeAlso ===== -/
def c_sc3 (k : Nat) (s : Int) : Prop := (k = 10 ∧ 10 ≤ s ∧ s ≤ 13) ∨ (k = 11 ∧ (1 ≤ s ∧ s ≤ 3 ∨ s = 22)) ∨ k = 63 ∨ k = 75
def c_scb3 (k : Nat) (s : Int) : Bool := c_scb k s || ((Nat.beq k 10 && decide (10 ≤ s ∧ s ≤ 13)) || (Nat.beq k 11 && decide (1 ≤ s ∧ s ≤ 3 ∨ s = 22)) || (Nat.beq k 63 || Nat.beq k 75))
def c_X3 (M : qM) : qM := fun k m s => bif c_scb3 k s then 0 else M k m s
def c_fr3 (M M' : qM) : Prop := ∀ (k : Nat) (m s : Int), ¬ c_scr k s → ¬ c_sc3 k s → M' k m s = M k m s
theorem c_fr3_X {M M' : qM} (h : c_fr3 M M') : c_X3 M' = c_X3 M := by
  funext k m s
  unfold c_X3
  by_cases q : c_scr k s
  · have e : c_scb3 k s = true := by unfold c_scb3; rw [c_scb_of q]; rfl
    rw [e]; rfl
  · by_cases q2 : c_sc3 k s
    · have e : c_scb3 k s = true := by
        unfold c_scb3
        rcases q2 with q2 | q2 | q2 | q2
        · obtain ⟨q2, q3⟩ := q2
          subst q2
          rw [decide_eq_true q3]
          cases c_scb 10 s <;> rfl
        · obtain ⟨q2, q3⟩ := q2
          subst q2
          rw [decide_eq_true q3]
          cases c_scb 11 s <;> rfl
        · subst q2
          cases c_scb 63 s <;> rfl
        · subst q2
          cases c_scb 75 s <;> rfl
      rw [e]; rfl
    · rw [h k m s q q2]
theorem c_cg3 {P : qM → Prop} (hP : ∀ M, P (c_X3 M) = P M) {M M' : qM} (h : c_fr3 M M') (p : P M) : P M' := by
  rw [← hP M', c_fr3_X h, hP M]; exact p
theorem c_cpy_fr3 {B : pT} {R : c_R} {t : Int} {N M M' : qM} (f : ∀ (k : Nat) (s : Int), (118 ≤ k ∧ k ≤ 135) ∨ (k = 11 ∧ 73 ≤ s ∧ s ≤ 76) → M' k 0 s = M k 0 s) (h : m_cpy B R t N M) : m_cpy B R t N M' := by
  obtain ⟨a, b, c, d, e, g, i, j⟩ := h
  have o : ∀ (k : Nat) (s : Int), 118 ≤ k → k ≤ 135 → M' k 0 s = M k 0 s := fun k s h1 h2 => f k s (Or.inl ⟨h1, h2⟩)
  have o11 : ∀ s : Int, 73 ≤ s → s ≤ 76 → M' 11 0 s = M 11 0 s := fun s h1 h2 => f 11 s (Or.inr ⟨rfl, h1, h2⟩)
  refine ⟨?_, fun c c0 c1 => ?_, fun x x0 x1 => ?_, fun s s0 s1 => ?_, fun y y0 y1 => ?_, fun k k0 k1 => ?_, fun k k0 k1 => ?_, fun z p h1 h2 h3 => ?_⟩
  · rw [o11 73 (by decide) (by decide), o11 74 (by decide) (by decide), o11 75 (by decide) (by decide), o11 76 (by decide) (by decide)]; exact a
  · rw [o 118 _ (by decide) (by decide), o 119 _ (by decide) (by decide)]; exact b c c0 c1
  · rw [o 120 _ (by decide) (by decide)]; exact c x x0 x1
  · rw [o 121 _ (by decide) (by decide), o 122 _ (by decide) (by decide), o 123 _ (by decide) (by decide)]; exact d s s0 s1
  · rw [o 124 _ (by decide) (by decide)]; exact e y y0 y1
  · rw [o 125 _ (by decide) (by decide)]; exact g k k0 k1
  · rw [o 126 _ (by decide) (by decide), o 127 _ (by decide) (by decide)]; exact i k k0 k1
  · rw [o (128 + z) _ (by omega) (by omega)]; exact j z p h1 h2 h3
def c_s8 (Z : Int → Int) (B : pT) : pT := fun k s => if k = 8 then Z s else B k s
theorem c_ok_s8 {Z : Int → Int} {B : pT} (h : c_ok B) (hZ : (8 ≤ Z 0 ∧ Z 0 ≤ 30) ∧ (8 ≤ Z 1 ∧ Z 1 ≤ 14) ∧ (Z 2 = 0 ∨ Z 2 = 1)) : c_ok (c_s8 Z B) := ⟨h.1, h.2.1, h.2.2.1, h.2.2.2.1, h.2.2.2.2.1, h.2.2.2.2.2.1, hZ.1, hZ.2.1, hZ.2.2⟩
/-- measures or what is seen also has changed: the book is not composed any more -/
theorem c_rl_un {n : Int} {B : pT} {M N : qM} {Z : Int → Int} (h : c_rl n B M) (f : c_fr3 M N) (hZ : (8 ≤ Z 0 ∧ Z 0 ≤ 30) ∧ (8 ≤ Z 1 ∧ Z 1 ≤ 14) ∧ (Z 2 = 0 ∨ Z 2 = 1)) (h13 : N 10 0 13 = 0) (h22 : N 11 0 22 = 0) (hm : (N 10 0 10 = Z 0 ∧ N 10 0 11 = Z 1 ∧ N 10 0 12 = Z 2) ∧ N 11 0 1 = Z 0 ∧ N 11 0 2 = Z 1 ∧ N 11 0 3 = Z 2) (ha : c_al N) : c_rl n (c_s8 Z B) N := by
  obtain ⟨⟨h0, h1, h2⟩, ⟨a1, a2, a3⟩, ⟨b1, b2, b3, b4⟩, h4, h5, h6, h7⟩ := h
  refine ⟨⟨h0, c_ok_s8 h1 hZ, h2⟩, ⟨c_cg3 (P := c_bk B) (fun _ => rfl) f a1, ?_, hm.1⟩, ⟨c_cg3 (P := c_dr) (fun _ => rfl) f b1, ha, c_cg3 (P := c_lm) (fun _ => rfl) f b3, c_cg3 (P := c_ed) (fun _ => rfl) f b4⟩, c_cg3 (P := c_ser n B) (fun _ => rfl) f h4, c_cg3 (P := c_bs B) (fun _ => rfl) f h5, ?_, Or.inl ⟨h13, h22⟩⟩
  · have z := c_cg3 (P := fun M => (∀ c, 0 ≤ c → c < 3 → M 64 0 c = B 0 c) ∧ (∀ x, 0 ≤ x → x < 30 → M 65 0 x = B 1 x ∧ M 66 0 x = B 2 x ∧ M 67 0 x = B 3 x) ∧ ∀ y, 0 ≤ y → y < 600 → M 70 0 y = B 4 y ∧ M 71 0 y = B 5 y ∧ M 69 0 y = B 6 y) (fun _ => rfl) f ⟨a2.1, a2.2.1, a2.2.2.1⟩
    exact ⟨z.1, z.2.1, z.2.2, hm.2⟩
  · rcases h6 with h6 | ⟨Bo, Wo, Ro, Lo, e', N0, q1, q2, q3, q4⟩
    · exact Or.inl (c_cg3 (P := fun M => M 10 0 9 = 0 ∧ M 11 0 73 = 0) (fun _ => rfl) f h6)
    · obtain ⟨r1, r2, r3, r4, r5, r6, r7, r8⟩ := q3
      exact Or.inr ⟨Bo, Wo, Ro, Lo, e', N0, c_cg3 (P := fun M => M 10 0 9 = e' + 1) (fun _ => rfl) f q1, q2, ⟨r1, r2, r3, c_cg3 (P := c_edn Bo Ro (c_tot Bo Ro Lo) e') (fun _ => rfl) f r4, c_cpy_fr3 (fun k s q => f k 0 s (by unfold c_scr; omega) (by unfold c_sc3; omega)) r5, r6, r7, c_cg3 (P := fun M => ∀ x, 0 ≤ x → x < 30 → x % 10 < Bo 0 (x / 10) → (M 68 0 x = M 120 0 x ↔ B 7 x = Bo 7 x)) (fun _ => rfl) f r8⟩, c_cg3 (P := fun M => ∀ x, 0 ≤ x → x < 30 → x % 10 < Bo 0 (x / 10) → M 120 0 x ≤ M 68 0 x ∧ Bo 7 x ≤ M 10 0 14) (fun _ => rfl) f q4⟩
theorem c_al_fr {M N : qM} (h : c_al M) (f : ∀ (k : Nat) (t : Int), (k = 63 ∨ k = 75) → 0 ≤ t → t < 10 → N k 0 t = M k 0 t) : c_al N := fun t a b => by
  rw [f 63 t (Or.inl rfl) a b, f 75 t (Or.inr rfl) a b]; exact h t a b
