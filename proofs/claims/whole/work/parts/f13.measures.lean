/-! ===== setMeasures, setByPage, seeAlso ===== -/
def c_sc3 (k : Nat) (s : Int) : Prop := (k = 10 ∧ 10 ≤ s ∧ s ≤ 13) ∨ (k = 11 ∧ (1 ≤ s ∧ s ≤ 3 ∨ s = 22)) ∨ k = 63 ∨ k = 75
def c_scb3 (k : Nat) (s : Int) : Bool := c_scb k s || ((Nat.beq k 10 && decide (10 ≤ s ∧ s ≤ 13)) || (Nat.beq k 11 && decide (1 ≤ s ∧ s ≤ 3 ∨ s = 22)) || (Nat.beq k 63 || Nat.beq k 75))
def c_X3 (M : qM) : qM := fun k m s => bif c_scb3 k s then 0 else M k m s
def c_fr3 (M M' : qM) : Prop := ∀ (k : Nat) (m s : Int), ¬ c_scr k s → ¬ c_sc3 k s → M' k m s = M k m s
theorem c_fr3_X {M M' : qM} (h : c_fr3 M M') : c_X3 M' = c_X3 M := by
  funext k m s
  unfold c_X3
  by_cases q : c_scr k s
  · have e : c_scb3 k s = true := by unfold c_scb3; rw [c_scb_of q]; rfl
    rw [e]; rfl
  · by_cases q2 : c_sc3 k s
    · have e : c_scb3 k s = true := by
        unfold c_scb3
        rcases q2 with q2 | q2 | q2 | q2
        · obtain ⟨q2, q3⟩ := q2
          subst q2
          rw [decide_eq_true q3]
          cases c_scb 10 s <;> rfl
        · obtain ⟨q2, q3⟩ := q2
          subst q2
          rw [decide_eq_true q3]
          cases c_scb 11 s <;> rfl
        · subst q2
          cases c_scb 63 s <;> rfl
        · subst q2
          cases c_scb 75 s <;> rfl
      rw [e]; rfl
    · rw [h k m s q q2]
theorem c_cg3 {P : qM → Prop} (hP : ∀ M, P (c_X3 M) = P M) {M M' : qM} (h : c_fr3 M M') (p : P M) : P M' := by
  rw [← hP M', c_fr3_X h, hP M]; exact p
theorem c_cpy_fr3 {B : pT} {R : c_R} {t : Int} {N M M' : qM} (f : ∀ (k : Nat) (s : Int), (118 ≤ k ∧ k ≤ 135) ∨ (k = 11 ∧ 73 ≤ s ∧ s ≤ 76) → M' k 0 s = M k 0 s) (h : m_cpy B R t N M) : m_cpy B R t N M' := by
  obtain ⟨a, b, c, d, e, g, i, j⟩ := h
  have o : ∀ (k : Nat) (s : Int), 118 ≤ k → k ≤ 135 → M' k 0 s = M k 0 s := fun k s h1 h2 => f k s (Or.inl ⟨h1, h2⟩)
  have o11 : ∀ s : Int, 73 ≤ s → s ≤ 76 → M' 11 0 s = M 11 0 s := fun s h1 h2 => f 11 s (Or.inr ⟨rfl, h1, h2⟩)
  refine ⟨?_, fun c c0 c1 => ?_, fun x x0 x1 => ?_, fun s s0 s1 => ?_, fun y y0 y1 => ?_, fun k k0 k1 => ?_, fun k k0 k1 => ?_, fun z p h1 h2 h3 => ?_⟩
  · rw [o11 73 (by decide) (by decide), o11 74 (by decide) (by decide), o11 75 (by decide) (by decide), o11 76 (by decide) (by decide)]; exact a
  · rw [o 118 _ (by decide) (by decide), o 119 _ (by decide) (by decide)]; exact b c c0 c1
  · rw [o 120 _ (by decide) (by decide)]; exact c x x0 x1
  · rw [o 121 _ (by decide) (by decide), o 122 _ (by decide) (by decide), o 123 _ (by decide) (by decide)]; exact d s s0 s1
  · rw [o 124 _ (by decide) (by decide)]; exact e y y0 y1
  · rw [o 125 _ (by decide) (by decide)]; exact g k k0 k1
  · rw [o 126 _ (by decide) (by decide), o 127 _ (by decide) (by decide)]; exact i k k0 k1
  · rw [o (128 + z) _ (by omega) (by omega)]; exact j z p h1 h2 h3
def c_s8 (Z : Int → Int) (B : pT) : pT := fun k s => if k = 8 then Z s else B k s
theorem c_ok_s8 {Z : Int → Int} {B : pT} (h : c_ok B) (hZ : (8 ≤ Z 0 ∧ Z 0 ≤ 30) ∧ (8 ≤ Z 1 ∧ Z 1 ≤ 14) ∧ (Z 2 = 0 ∨ Z 2 = 1)) : c_ok (c_s8 Z B) := ⟨h.1, h.2.1, h.2.2.1, h.2.2.2.1, h.2.2.2.2.1, h.2.2.2.2.2.1, hZ.1, hZ.2.1, hZ.2.2⟩
/-- measures or what is seen also has changed: the book is not composed any more -/
theorem c_rl_un {n : Int} {B : pT} {M N : qM} {Z : Int → Int} (h : c_rl n B M) (f : c_fr3 M N) (hZ : (8 ≤ Z 0 ∧ Z 0 ≤ 30) ∧ (8 ≤ Z 1 ∧ Z 1 ≤ 14) ∧ (Z 2 = 0 ∨ Z 2 = 1)) (h13 : N 10 0 13 = 0) (h22 : N 11 0 22 = 0) (hm : (N 10 0 10 = Z 0 ∧ N 10 0 11 = Z 1 ∧ N 10 0 12 = Z 2) ∧ N 11 0 1 = Z 0 ∧ N 11 0 2 = Z 1 ∧ N 11 0 3 = Z 2) (ha : c_al N) : c_rl n (c_s8 Z B) N := by
  obtain ⟨⟨h0, h1, h2⟩, ⟨a1, a2, a3⟩, ⟨b1, b2, b3, b4⟩, h4, h5, h6, h7⟩ := h
  refine ⟨⟨h0, c_ok_s8 h1 hZ, h2⟩, ⟨c_cg3 (P := c_bk B) (fun _ => rfl) f a1, ?_, hm.1⟩, ⟨c_cg3 (P := c_dr) (fun _ => rfl) f b1, ha, c_cg3 (P := c_lm) (fun _ => rfl) f b3, c_cg3 (P := c_ed) (fun _ => rfl) f b4⟩, c_cg3 (P := c_ser n B) (fun _ => rfl) f h4, c_cg3 (P := c_bs B) (fun _ => rfl) f h5, ?_, Or.inl ⟨h13, h22⟩⟩
  · have z := c_cg3 (P := fun M => (∀ c, 0 ≤ c → c < 3 → M 64 0 c = B 0 c) ∧ (∀ x, 0 ≤ x → x < 30 → M 65 0 x = B 1 x ∧ M 66 0 x = B 2 x ∧ M 67 0 x = B 3 x) ∧ ∀ y, 0 ≤ y → y < 600 → M 70 0 y = B 4 y ∧ M 71 0 y = B 5 y ∧ M 69 0 y = B 6 y) (fun _ => rfl) f ⟨a2.1, a2.2.1, a2.2.2.1⟩
    exact ⟨z.1, z.2.1, z.2.2, hm.2⟩
  · rcases h6 with h6 | ⟨Bo, Wo, Ro, Lo, e', N0, q1, q2, q3, q4⟩
    · exact Or.inl (c_cg3 (P := fun M => M 10 0 9 = 0 ∧ M 11 0 73 = 0) (fun _ => rfl) f h6)
    · obtain ⟨r1, r2, r3, r4, r5, r6, r7, r8⟩ := q3
      exact Or.inr ⟨Bo, Wo, Ro, Lo, e', N0, c_cg3 (P := fun M => M 10 0 9 = e' + 1) (fun _ => rfl) f q1, q2, ⟨r1, r2, r3, c_cg3 (P := c_edn Bo Ro (c_tot Bo Ro Lo) e') (fun _ => rfl) f r4, c_cpy_fr3 (fun k s q => f k 0 s (by unfold c_scr; omega) (by unfold c_sc3; omega)) r5, r6, r7, c_cg3 (P := fun M => ∀ x, 0 ≤ x → x < 30 → x % 10 < Bo 0 (x / 10) → (M 68 0 x = M 120 0 x ↔ B 7 x = Bo 7 x)) (fun _ => rfl) f r8⟩, c_cg3 (P := fun M => ∀ x, 0 ≤ x → x < 30 → x % 10 < Bo 0 (x / 10) → M 120 0 x ≤ M 68 0 x ∧ Bo 7 x ≤ M 10 0 14) (fun _ => rfl) f q4⟩
theorem c_al_fr {M N : qM} (h : c_al M) (f : ∀ (k : Nat) (t : Int), (k = 63 ∨ k = 75) → 0 ≤ t → t < 10 → N k 0 t = M k 0 t) : c_al N := fun t a b => by
  rw [f 63 t (Or.inl rfl) a b, f 75 t (Or.inr rfl) a b]; exact h t a b
theorem t159 {d : Nat} {h : qH} (hS : qSe h) {a b : Int} {M : qM} {F : Int → qM → Prop} (H1 : (8 ≤ a ∧ a ≤ 30) ∧ 8 ≤ b ∧ b ≤ 14 → ∀ N, (∀ (k : Nat) (m s : Int), ¬ (k = 11 ∧ m = 0 ∧ (s = 0 ∨ s = 1 ∨ s = 2 ∨ s = 22)) → N k m s = M k m s) → N 11 0 0 = 0 → N 11 0 1 = a → N 11 0 2 = b → N 11 0 22 = 0 → F (M 11 0 1) N) (H0 : ¬ ((8 ≤ a ∧ a ≤ 30) ∧ 8 ≤ b ∧ b ≤ 14) → ∀ N, N = qU M 11 0 0 1 → F 0 N) : e159 (d + 2) h a b M F := by
  refine w159 hS (t152 hS (fun qa => ⟨fun z => absurd z (by decide), fun _ => t152 hS (fun qb x hx N hN => ?_) (fun qb x hx N hN => ?_)⟩) (fun qa => ⟨fun _ N hN => ?_, fun z => absurd rfl z⟩))
  · rw [if_neg (by decide)] at hx
    have e : N 11 0 0 = 0 := by rw [hN, qU_s, hx]
    refine ⟨fun _ N1 f1 N2 f2 N3 f3 => ?_, fun z => by omega⟩
    have e1 : N 11 0 1 = M 11 0 1 := by rw [hN, qU_l (by decide)]
    rw [e1]
    exact H1 ⟨qa, qb⟩ N3 (fun k m s q => by rw [f3, f2, f1, hN]; unfold qU; rw [if_neg (by omega), if_neg (by omega), if_neg (by omega), if_neg (by omega)]) (by rw [f3, qU_l (by decide), f2, qU_l (by decide), f1, qU_l (by decide)]; exact e) (by rw [f3, qU_l (by decide), f2, qU_l (by decide), f1, qU_s]) (by rw [f3, qU_l (by decide), f2, qU_s]) (by rw [f3, qU_s])
  · rw [if_pos rfl] at hx
    have e : N 11 0 0 = 1 := by rw [hN, qU_s, hx]
    exact ⟨fun z => by omega, fun _ => H0 (fun z => qb z.2) N (by rw [hN, hx])⟩
  · have e : N 11 0 0 = 1 := by rw [hN, qU_s]
    exact ⟨fun z => by omega, fun _ => H0 (fun z => qa z.1) N hN⟩
theorem y95 {d d' : Nat} {h : qH} (hS : qSe h) {n a b : Int} {B : pT} {M : qM} (hn : n < 512) (hr : c_rl n B M) : e95 (d + 1) h a b M (p_ok (n + 1) (e159 (d' + 2) h a b)) (p_ex (n + 1) (e159 (d' + 2) h a b) 1 0 0) := by
  have ms := hr.2.1.2.2
  have mk := hr.2.1.2.1.2.2.2
  have no : ¬ ((8 ≤ a ∧ a ≤ 30) ∧ 8 ≤ b ∧ b ≤ 14) → p_ex (n + 1) (e159 (d' + 2) h a b) 1 0 0 0 M := fun q => Or.inl ⟨rfl, by decide, p_exc hn hr (fun F H => t159 hS (fun z => absurd z q) (fun _ => H 0))⟩
  refine w95 hS ⟨fun z => w95_24 hS (no (by omega)), fun z1 => ⟨fun z2 => ⟨fun z => w95_24 hS (no (by omega)), fun z3 => ⟨fun z4 M1 f1 M2 f2 M3 f3 => ?_, fun z => w95_24 hS (no (by omega))⟩⟩, fun z => w95_24 hS (no (by omega))⟩⟩
  intro M4 f4
  have O4 : ∀ (k : Nat) (m s : Int), ¬ (k = 10 ∧ m = 0 ∧ (s = 10 ∨ s = 11 ∨ s = 13)) → k ≠ 138 → M4 k m s = M k m s := fun k m s q q2 => by rw [f4, f3, f2, f1]; unfold qU; rw [if_neg (by omega), if_neg (by omega), if_neg (by omega), if_neg (by omega)]
  refine t159 hS (fun q N O e0 e1 e2 e22 => ⟨e0, ?_, ?_, c_s8 (fun s => if s = 0 then a else if s = 1 then b else B 8 2) B, c_rl_up hn ?_⟩) (fun q => absurd ⟨⟨by omega, z2⟩, by omega, z4⟩ q)
  · rw [O4 _ _ _ (by omega) (by decide), mk.1, ms.1]
  · rw [O _ _ _ (by omega), f4, qU_s]
  · refine c_rl_un hr (fun k m s q q2 => ?_) ⟨q.1, q.2, hr.1.2.1.2.2.2.2.2.2.2.2⟩ ?_ e22 ⟨⟨?_, ?_, ?_⟩, e1, e2, ?_⟩ ?_
    · rw [O k m s (fun z => by unfold c_scr c_sc3 at *; omega), O4 k m s (fun z => by unfold c_scr c_sc3 at *; omega) (fun z => q (Or.inl z))]
    · rw [O _ _ _ (by omega), f4, qU_k (by decide), f3, qU_s]
    · rw [O _ _ _ (by omega), f4, qU_k (by decide), f3, qU_l (by decide), f2, qU_l (by decide), f1, qU_s]; rfl
    · rw [O _ _ _ (by omega), f4, qU_k (by decide), f3, qU_l (by decide), f2, qU_s]; rfl
    · rw [O _ _ _ (by omega), O4 _ _ _ (by omega) (by decide)]; exact ms.2.2
    · rw [O _ _ _ (by omega), O4 _ _ _ (by omega) (by decide)]; exact mk.2.2
    · exact c_al_fr hr.2.2.1.2.1 (fun k t q t0 t1 => by rw [O _ _ _ (by omega), O4 _ _ _ (by omega) (by omega)])
theorem y96 {d d' : Nat} {h : qH} (hS : qSe h) {n b : Int} {B : pT} {M : qM} (hn : n < 512) (hr : c_rl n B M) (hb : b = 0 ∨ b = 1) : e96 (d + 1) h b M (p_eq (n + 1) (e160 (d' + 1) h b)) := by
  have ms := hr.2.1.2.2
  have mk := hr.2.1.2.1.2.2.2
  have b2 := hr.1.2.1.2.2.2.2.2.2.2.2
  refine w96 hS ⟨hb, fun M1 f1 M2 f2 => ⟨by rw [ms.2.2]; exact b2, w160 hS (fun M3 f3 => ⟨hb, fun M4 f4 M5 f5 => ?_⟩)⟩⟩
  have e3 : M3 11 0 3 = B 8 2 := by rw [f3, qU_l (by decide), f2, qU_k (by decide), f1, qU_k (by decide)]; exact mk.2.2
  rw [e3]
  have O : ∀ (k : Nat) (m s : Int), ¬ (k = 10 ∧ m = 0 ∧ (s = 12 ∨ s = 13)) → ¬ (k = 11 ∧ m = 0 ∧ (s = 0 ∨ s = 3 ∨ s = 22)) → M5 k m s = M k m s := fun k m s q q2 => by rw [f5, f4, f3, f2, f1]; unfold qU; rw [if_neg (by omega), if_neg (by omega), if_neg (by omega), if_neg (by omega), if_neg (by omega)]
  refine ⟨b2, ms.2.2.symm, c_s8 (fun s => if s = 2 then b else B 8 s) B, c_rl_up hn (c_rl_un hr (fun k m s q q2 => O k m s (fun z => by unfold c_scr c_sc3 at *; omega) (fun z => by unfold c_scr c_sc3 at *; omega)) ⟨hr.1.2.1.2.2.2.2.2.2.1, hr.1.2.1.2.2.2.2.2.2.2.1, hb⟩ ?_ ?_ ⟨⟨?_, ?_, ?_⟩, ?_, ?_, ?_⟩ ?_)⟩
  · rw [f5, qU_k (by decide), f4, qU_k (by decide), f3, qU_k (by decide), f2, qU_s]
  · rw [f5, qU_s]
  · rw [O _ _ _ (by omega) (by omega)]; exact ms.1
  · rw [O _ _ _ (by omega) (by omega)]; exact ms.2.1
  · rw [f5, qU_k (by decide), f4, qU_k (by decide), f3, qU_k (by decide), f2, qU_l (by decide), f1, qU_s]; rfl
  · rw [O _ _ _ (by omega) (by omega)]; exact mk.1
  · rw [O _ _ _ (by omega) (by omega)]; exact mk.2.1
  · rw [f5, qU_l (by decide), f4, qU_s]; rfl
  · exact c_al_fr hr.2.2.1.2.1 (fun k t q t0 t1 => O _ _ _ (by omega) (by omega))
