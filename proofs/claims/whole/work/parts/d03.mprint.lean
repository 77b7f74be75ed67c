/-! ===== FacingleafModel.print ===== -/
noncomputable def c_told (B : pT) (R : c_R) (y : Int) : Int := if c_K B y = 6 then b_text (c_K B) (B 5) (c_G B R) y else if c_K B y = 2 then b_num (c_K B) (c_G B R) (B 8 2) y else 0
theorem m_ed0_at {B : pT} {W : Int → Int} {ob : Prop} {Bo : pT} {Ro R : c_R} {p0 y : Int} {M : qM} (hB : c_ok B) (h : c_out B W ob Bo Ro p0 R) (hm : m_ed0 B R M) (hy : 0 ≤ y ∧ y < 600) (ht : c_there B y) : (0 ≤ M 93 0 y ∧ M 93 0 y < 70) ∧ M 92 0 (70 * (y / 200) + M 93 0 y) = c_G B R y := by
  obtain ⟨k, r, k1, k2, r1, r2, r3, k6⟩ := c_G_ex hB h hy ht
  have hc : 0 ≤ y / 200 ∧ y / 200 < 3 := by omega
  have ok := c_okB hB h.1 hc
  have t67 : p_SR (r_A B R (y / 200)) (B 0 (y / 200)) ≤ 67 := ok.2.2
  have N0 : 0 < B 0 (y / 200) := by have := ht.1; omega
  have cd := (hm.2 (y / 200) hc.1 hc.2).2 N0
  have pg := ((h.2 (y / 200) hc.1 hc.2).1.2 N0).2.2.1
  have row := (cd.1.2 r r1.1 r1.2).2.2.2.2 (y % 20) r3.1 r3.2
  rw [r2] at row
  unfold p_id at row
  rw [show 20 * (10 * (y / 200) + y / 20 % 10) + y % 20 = y by omega] at row
  have p := (cd.2.1 k k1.1 (by omega)).2 r k2.1 k2.2
  rw [row, p, k6]
  exact ⟨⟨r1.1, by omega⟩, by omega⟩
theorem t218 {d : Nat} {h : qH} (hS : qSe h) {B : pT} {R : c_R} {y : Int} {M : qM} {F : Int → qM → Prop} (hB2 : c_ok2 B) (hbk : m_bk B M) (hpl : b_pl (c_K B) (c_G B R) M) (hG : ∀ y, 0 ≤ y → y < 600 → c_K B y ≠ 0 → 0 ≤ c_G B R y ∧ c_G B R y ≤ 1000) (hy : 0 ≤ y ∧ y < 600) (ht : c_there B y) (H : F (c_told B R y) M) : e218 (d + 4) h y M F := by
  have k : M 70 0 y = c_K B y := by
    rw [(hbk.2.2.1 y hy.1 hy.2).1]
    exact (if_pos ht).symm
  have e3 : M 11 0 3 = B 8 2 := hbk.2.2.2.2.2
  unfold c_told at H
  refine w218 hS ⟨hy, fun q => ?_, fun q => ⟨hy, fun q2 => ?_, fun q2 => ?_⟩⟩
  · rw [k] at q
    rw [if_pos q] at H
    exact t208 hS (m_bk_wd hB2 hbk) hpl hy (by omega) hG H
  · rw [k] at q q2
    rw [if_neg q, if_pos q2] at H
    rw [e3]
    exact t210 hS (V := B 5) (m_bk_wd hB2 hbk) (fun _ => hpl) hy (by omega) H
  · rw [k] at q q2
    rw [if_neg q, if_neg q2] at H
    exact H
def fr217 (M M' : qM) : Prop := ∀ (k : Nat) (m s : Int), ¬ (m = 0 ∧ ((k = 11 ∧ (s = 0 ∨ (73 ≤ s ∧ s ≤ 76))) ∨ (118 ≤ k ∧ k ≤ 135))) → M' k m s = M k m s
theorem t219 {d : Nat} {h : qH} (hS : qSe h) {B : pT} {R : c_R} {M : qM} {F : qM → Prop} (hB2 : c_ok2 B) (hbk : m_bk B M) (hpl : b_pl (c_K B) (c_G B R) M) (hG : ∀ y, 0 ≤ y → y < 600 → c_K B y ≠ 0 → 0 ≤ c_G B R y ∧ c_G B R y ≤ 1000)
    (H : ∀ M', (∀ (k : Nat) (m s : Int), ¬ (m = 0 ∧ 124 ≤ k ∧ k ≤ 127) → M' k m s = M k m s) → (∀ y, 0 ≤ y → y < 600 → M' 124 0 y = c_told B R y) → (∀ k, 0 ≤ k → k < 12 → M' 125 0 k = M 95 0 k) → (∀ k, 0 ≤ k → k < 36 → M' 126 0 k = M 97 0 k ∧ M' 127 0 k = M 98 0 k) → F M') : e219 (d + 5) h M F := by
  refine w219 hS ?_
  refine q_upto (P := fun x => 0 ≤ x → ∀ N, (∀ (k : Nat) (m s : Int), ¬ (m = 0 ∧ 124 ≤ k ∧ k ≤ 127) → N k m s = M k m s) → (∀ y, 0 ≤ y → y < x → N 124 0 y = c_told B R y) → b219_2 d h F x N) (a := 0) (b := 600) (by decide) (fun _ N O v => w219_2 hS ⟨fun q => absurd q (by decide), fun _ => ?_⟩) (fun x x0 x1 ih _ N O v => ?_) (Int.le_refl _) M (fun _ _ _ _ => rfl) (fun y a b => by omega)
  · refine q_upto (P := fun x => 0 ≤ x → ∀ N, (∀ (k : Nat) (m s : Int), ¬ (m = 0 ∧ 124 ≤ k ∧ k ≤ 127) → N k m s = M k m s) → (∀ y, 0 ≤ y → y < 600 → N 124 0 y = c_told B R y) → (∀ k, 0 ≤ k → k < x → N 125 0 k = M 95 0 k) → b219_40 d h F x N) (a := 0) (b := 12) (by decide) (fun _ N O v v2 => w219_40 hS ⟨fun q => absurd q (by decide), fun _ => ?_⟩) (fun x x0 x1 ih _ N O v v2 => ?_) (Int.le_refl _) N O v (fun k a b => by omega)
    · refine q_upto (P := fun x => 0 ≤ x → ∀ N, (∀ (k : Nat) (m s : Int), ¬ (m = 0 ∧ 124 ≤ k ∧ k ≤ 127) → N k m s = M k m s) → (∀ y, 0 ≤ y → y < 600 → N 124 0 y = c_told B R y) → (∀ k, 0 ≤ k → k < 12 → N 125 0 k = M 95 0 k) → (∀ k, 0 ≤ k → k < x → N 126 0 k = M 97 0 k ∧ N 127 0 k = M 98 0 k) → b219_66 d h F x N) (a := 0) (b := 36) (by decide) (fun _ N O v v2 v3 => w219_66 hS ⟨fun q => absurd q (by decide), fun _ => H N O v v2 v3⟩) (fun x x0 x1 ih _ N O v v2 v3 => ?_) (Int.le_refl _) N O v v2 (fun k a b => by omega)
      refine w219_66 hS ⟨fun _ => ⟨⟨x0, x1⟩, ⟨x0, x1⟩, fun N1 f1 => ⟨⟨x0, x1⟩, ⟨x0, x1⟩, fun N2 f2 => ⟨⟨by omega, by omega⟩, ?_⟩⟩⟩, fun q => absurd x1 q⟩
      have O2 : ∀ (k : Nat) (m s : Int), ¬ (m = 0 ∧ (k = 126 ∨ k = 127) ∧ s = x) → N2 k m s = N k m s := fun k m s q => by rw [f2, f1]; unfold qU; rw [if_neg (by omega), if_neg (by omega)]
      refine ih (by omega) N2 (fun k m s q => by rw [O2 k m s (by omega)]; exact O k m s q) (fun y a b => by rw [O2 _ _ _ (by omega)]; exact v y a b) (fun k a b => by rw [O2 _ _ _ (by omega)]; exact v2 k a b) (fun k a b => ?_)
      by_cases e : k = x
      · rw [e, f2, qU_s, qU_k (by decide), f1, qU_s, qU_k (by decide), O _ _ _ (by omega), O _ _ _ (by omega)]; exact ⟨rfl, rfl⟩
      · rw [O2 _ _ _ (by omega), O2 _ _ _ (by omega)]; exact v3 k a (by omega)
    · refine w219_40 hS ⟨fun _ => ⟨⟨x0, x1⟩, ⟨x0, x1⟩, fun N1 f1 => ⟨⟨by omega, by omega⟩, ?_⟩⟩, fun q => absurd x1 q⟩
      have O1 : ∀ (k : Nat) (m s : Int), ¬ (m = 0 ∧ k = 125 ∧ s = x) → N1 k m s = N k m s := fun k m s q => by rw [f1]; unfold qU; rw [if_neg (by omega)]
      refine ih (by omega) N1 (fun k m s q => by rw [O1 k m s (by omega)]; exact O k m s q) (fun y a b => by rw [O1 _ _ _ (by omega)]; exact v y a b) (fun k a b => ?_)
      by_cases e : k = x
      · rw [e, f1, qU_s, O _ _ _ (by omega)]
      · rw [O1 _ _ _ (by omega)]; exact v2 k a (by omega)
  · have wd := m_bk_wd hB2 hbk x x0 x1
    have nx : ∀ N1 z, N1 = qU N 124 0 x z → z = c_told B R x → qIn (x + 1) ∧ b219_2 d h F (x + 1) N1 := fun N1 z f1 hz => by
      have O1 : ∀ (k : Nat) (m s : Int), ¬ (m = 0 ∧ k = 124 ∧ s = x) → N1 k m s = N k m s := fun k m s q => by rw [f1]; unfold qU; rw [if_neg (by omega)]
      refine ⟨⟨by omega, by omega⟩, ih (by omega) N1 (fun k m s q => by rw [O1 k m s (by omega)]; exact O k m s q) (fun y a b => ?_)⟩
      by_cases e : y = x
      · rw [e, f1, qU_s, hz]
      · rw [O1 _ _ _ (by omega)]; exact v y a (by omega)
    refine w219_2 hS ⟨fun _ => t205 hS ⟨x0, x1⟩ ⟨fun q => ⟨⟨x0, x1⟩, fun N1 f1 => nx N1 0 f1 ?_⟩, fun q => ?_⟩, fun q => absurd x1 q⟩
    · rw [O 67 _ _ (by omega)] at q
      have k0 : c_K B x = 0 := by
        rw [← wd.1]
        by_cases e : x % 20 < M 67 0 (x / 20)
        · rw [if_pos e] at q; exact absurd q (by decide)
        · rw [if_neg e]
      unfold c_told
      rw [if_neg (by omega), if_neg (by omega)]
    · rw [O 67 _ _ (by omega)] at q
      have e : x % 20 < M 67 0 (x / 20) := Classical.byContradiction fun z => by rw [if_neg z] at q; exact q rfl
      have th : c_there B x := by
        have e67 := (hbk.2.1 (x / 20) (by omega) (by omega)).2.2
        rw [e67] at e
        refine ⟨Classical.byContradiction fun z => ?_, e⟩
        have := (hB2 (x / 20) (by omega) (by omega) (by rw [show x / 20 / 10 = x / 200 by omega]; exact z)).2
        omega
      exact t218 hS hB2 (m_bk_fr hbk (fun k s q => O _ _ _ (by omega))) (fun y y0 y1 k => by rw [O 93 _ _ (by omega), O 92 _ _ (by omega)]; exact hpl y y0 y1 k) hG ⟨x0, x1⟩ th ⟨⟨x0, x1⟩, fun N1 f1 => nx N1 _ f1 rfl⟩
theorem t220 {d : Nat} {h : qH} (hS : qSe h) {n : Int} {M : qM} {F : qM → Prop} (hn : M 11 0 58 = n) (hn2 : 0 ≤ n ∧ n < 400)
    (H : ∀ M', (∀ (k : Nat) (m s : Int), ¬ (m = 0 ∧ 128 ≤ k ∧ k ≤ 135) → M' k m s = M k m s) → (∀ (i : Nat) (p : Int), i ≤ 7 → 1 ≤ p → p ≤ n → M' (128 + i) 0 p = M (105 + i) 0 p) → F M') : e220 (d + 1) h M F := by
  refine w220 hS ?_
  refine q_upto (P := fun x => 1 ≤ x → ∀ N, (∀ (k : Nat) (m s : Int), ¬ (m = 0 ∧ 128 ≤ k ∧ k ≤ 135) → N k m s = M k m s) → (∀ (i : Nat) (p : Int), i ≤ 7 → 1 ≤ p → p < x → N (128 + i) 0 p = M (105 + i) 0 p) → b220_2 d h F x N) (a := 1) (b := n + 1) (by omega) (fun _ N O v => w220_2 hS ⟨fun q => by rw [O _ _ _ (by omega), hn] at q; omega, fun _ => H N O (fun i p a b c => v i p a b (by omega))⟩) (fun x x0 x1 ih _ N O v => ?_) (Int.le_refl _) M (fun _ _ _ _ => rfl) (fun i p a b c => by omega)
  refine w220_2 hS ⟨fun _ => ⟨⟨by omega, by omega⟩, ⟨by omega, by omega⟩, fun N1 f1 => ⟨⟨by omega, by omega⟩, ⟨by omega, by omega⟩, fun N2 f2 => ⟨⟨by omega, by omega⟩, ⟨by omega, by omega⟩, fun N3 f3 => ⟨⟨by omega, by omega⟩, ⟨by omega, by omega⟩, fun N4 f4 => ⟨⟨by omega, by omega⟩, ⟨by omega, by omega⟩, fun N5 f5 => ⟨⟨by omega, by omega⟩, ⟨by omega, by omega⟩, fun N6 f6 => ⟨⟨by omega, by omega⟩, ⟨by omega, by omega⟩, fun N7 f7 => ⟨⟨by omega, by omega⟩, ⟨by omega, by omega⟩, fun N8 f8 => ⟨⟨by omega, by omega⟩, ?_⟩⟩⟩⟩⟩⟩⟩⟩⟩, fun q => by rw [O _ _ _ (by omega), hn] at q; omega⟩
  have O1 : ∀ (k : Nat) (m s : Int), ¬ (k = 128 ∧ m = 0 ∧ s = x) → N1 k m s = N k m s := fun k m s q => by rw [f1]; unfold qU; rw [if_neg q]
  have O2 : ∀ (k : Nat) (m s : Int), ¬ (k = 129 ∧ m = 0 ∧ s = x) → N2 k m s = N1 k m s := fun k m s q => by rw [f2]; unfold qU; rw [if_neg q]
  have O3 : ∀ (k : Nat) (m s : Int), ¬ (k = 130 ∧ m = 0 ∧ s = x) → N3 k m s = N2 k m s := fun k m s q => by rw [f3]; unfold qU; rw [if_neg q]
  have O4 : ∀ (k : Nat) (m s : Int), ¬ (k = 131 ∧ m = 0 ∧ s = x) → N4 k m s = N3 k m s := fun k m s q => by rw [f4]; unfold qU; rw [if_neg q]
  have O5 : ∀ (k : Nat) (m s : Int), ¬ (k = 132 ∧ m = 0 ∧ s = x) → N5 k m s = N4 k m s := fun k m s q => by rw [f5]; unfold qU; rw [if_neg q]
  have O6 : ∀ (k : Nat) (m s : Int), ¬ (k = 133 ∧ m = 0 ∧ s = x) → N6 k m s = N5 k m s := fun k m s q => by rw [f6]; unfold qU; rw [if_neg q]
  have O7 : ∀ (k : Nat) (m s : Int), ¬ (k = 134 ∧ m = 0 ∧ s = x) → N7 k m s = N6 k m s := fun k m s q => by rw [f7]; unfold qU; rw [if_neg q]
  have O8 : ∀ (k : Nat) (m s : Int), ¬ (k = 135 ∧ m = 0 ∧ s = x) → N8 k m s = N7 k m s := fun k m s q => by rw [f8]; unfold qU; rw [if_neg q]
  refine ih (by omega) N8 (fun k m s q => by rw [O8 _ _ _ (by omega), O7 _ _ _ (by omega), O6 _ _ _ (by omega), O5 _ _ _ (by omega), O4 _ _ _ (by omega), O3 _ _ _ (by omega), O2 _ _ _ (by omega), O1 _ _ _ (by omega)]; exact O k m s q) (fun i p hi p0 p1 => ?_)
  by_cases e : p = x
  · rw [e]
    rcases (show i = 0 ∨ i = 1 ∨ i = 2 ∨ i = 3 ∨ i = 4 ∨ i = 5 ∨ i = 6 ∨ i = 7 by omega) with rfl | rfl | rfl | rfl | rfl | rfl | rfl | rfl
    · show N8 128 0 x = M 105 0 x
      rw [O8 _ _ _ (by omega), O7 _ _ _ (by omega), O6 _ _ _ (by omega), O5 _ _ _ (by omega), O4 _ _ _ (by omega), O3 _ _ _ (by omega), O2 _ _ _ (by omega), f1, qU_s, O _ _ _ (by omega)]
    · show N8 129 0 x = M 106 0 x
      rw [O8 _ _ _ (by omega), O7 _ _ _ (by omega), O6 _ _ _ (by omega), O5 _ _ _ (by omega), O4 _ _ _ (by omega), O3 _ _ _ (by omega), f2, qU_s, O1 _ _ _ (by omega), O _ _ _ (by omega)]
    · show N8 130 0 x = M 107 0 x
      rw [O8 _ _ _ (by omega), O7 _ _ _ (by omega), O6 _ _ _ (by omega), O5 _ _ _ (by omega), O4 _ _ _ (by omega), f3, qU_s, O2 _ _ _ (by omega), O1 _ _ _ (by omega), O _ _ _ (by omega)]
    · show N8 131 0 x = M 108 0 x
      rw [O8 _ _ _ (by omega), O7 _ _ _ (by omega), O6 _ _ _ (by omega), O5 _ _ _ (by omega), f4, qU_s, O3 _ _ _ (by omega), O2 _ _ _ (by omega), O1 _ _ _ (by omega), O _ _ _ (by omega)]
    · show N8 132 0 x = M 109 0 x
      rw [O8 _ _ _ (by omega), O7 _ _ _ (by omega), O6 _ _ _ (by omega), f5, qU_s, O4 _ _ _ (by omega), O3 _ _ _ (by omega), O2 _ _ _ (by omega), O1 _ _ _ (by omega), O _ _ _ (by omega)]
    · show N8 133 0 x = M 110 0 x
      rw [O8 _ _ _ (by omega), O7 _ _ _ (by omega), f6, qU_s, O5 _ _ _ (by omega), O4 _ _ _ (by omega), O3 _ _ _ (by omega), O2 _ _ _ (by omega), O1 _ _ _ (by omega), O _ _ _ (by omega)]
    · show N8 134 0 x = M 111 0 x
      rw [O8 _ _ _ (by omega), f7, qU_s, O6 _ _ _ (by omega), O5 _ _ _ (by omega), O4 _ _ _ (by omega), O3 _ _ _ (by omega), O2 _ _ _ (by omega), O1 _ _ _ (by omega), O _ _ _ (by omega)]
    · show N8 135 0 x = M 112 0 x
      rw [f8, qU_s, O7 _ _ _ (by omega), O6 _ _ _ (by omega), O5 _ _ _ (by omega), O4 _ _ _ (by omega), O3 _ _ _ (by omega), O2 _ _ _ (by omega), O1 _ _ _ (by omega), O _ _ _ (by omega)]
  · have q := v i p hi p0 (by omega)
    rw [O8 _ _ _ (by omega), O7 _ _ _ (by omega), O6 _ _ _ (by omega), O5 _ _ _ (by omega), O4 _ _ _ (by omega), O3 _ _ _ (by omega), O2 _ _ _ (by omega), O1 _ _ _ (by omega)]
    exact q
/-- the printed copy of the memory N, in M -/
def m_cpy (B : pT) (R : c_R) (tot : Int) (N M : qM) : Prop := (M 11 0 73 = 1 ∧ M 11 0 74 = tot ∧ M 11 0 75 = B 8 0 ∧ M 11 0 76 = B 8 1) ∧ (∀ c, 0 ≤ c → c < 3 → M 118 0 c = N 114 0 c ∧ M 119 0 c = N 87 0 c) ∧ (∀ x, 0 ≤ x → x < 30 → M 120 0 x = N 68 0 x) ∧ (∀ s, 0 ≤ s → s < 210 → M 121 0 s = N 88 0 s ∧ M 122 0 s = N 90 0 s ∧ M 123 0 s = N 91 0 s) ∧ (∀ y, 0 ≤ y → y < 600 → M 124 0 y = c_told B R y) ∧ (∀ k, 0 ≤ k → k < 12 → M 125 0 k = N 95 0 k) ∧ (∀ k, 0 ≤ k → k < 36 → M 126 0 k = N 97 0 k ∧ M 127 0 k = N 98 0 k) ∧ ∀ (i : Nat) (p : Int), i ≤ 7 → 1 ≤ p → p ≤ tot → M (128 + i) 0 p = N (105 + i) 0 p
theorem t217 {d : Nat} {h : qH} (hS : qSe h) {B : pT} {R : c_R} {tot : Int} {M : qM} {F : Int → qM → Prop} (hB2 : c_ok2 B) (hbk : m_bk B M) (hpl : M 11 0 22 ≠ 0 → b_pl (c_K B) (c_G B R) M) (hG : ∀ y, 0 ≤ y → y < 600 → c_K B y ≠ 0 → 0 ≤ c_G B R y ∧ c_G B R y ≤ 1000) (ht : M 11 0 22 ≠ 0 → M 11 0 58 = tot ∧ 0 ≤ tot ∧ tot < 400)
    (HX : M 11 0 22 = 0 → ∀ M', M' = qU M 11 0 0 1 → F 0 M')
    (H : M 11 0 22 ≠ 0 → ∀ M', fr217 M M' → M' 11 0 0 = 0 → m_cpy B R tot M M' → F tot M') : e217 (d + 6) h M F := by
  refine w217 hS (fun x hx M1 f1 => ?_)
  have v0 : M1 11 0 0 = x := by rw [f1, qU_s]
  rw [v0]
  by_cases no : M 11 0 22 = 0
  · rw [if_pos no] at hx
    exact ⟨fun q => by omega, fun _ => HX no M1 (by rw [f1, hx])⟩
  · rw [if_neg no] at hx
    obtain ⟨t1, t2, t3⟩ := ht no
    refine ⟨fun _ M2 f2 M3 f3 M4 f4 M5 f5 => ?_, fun q => by omega⟩
    have O5 : ∀ (k : Nat) (m s : Int), ¬ (k = 11 ∧ m = 0 ∧ (s = 0 ∨ (73 ≤ s ∧ s ≤ 76))) → M5 k m s = M k m s := fun k m s q => by rw [f5, f4, f3, f2, f1]; unfold qU; rw [if_neg (by omega), if_neg (by omega), if_neg (by omega), if_neg (by omega), if_neg (by omega)]
    have v76 : M5 11 0 76 = B 8 1 := by rw [f5, qU_s, f4, qU_l (by decide), f3, qU_l (by decide), f2, qU_l (by decide), f1, qU_l (by decide)]; exact hbk.2.2.2.2.1
    have v75 : M5 11 0 75 = B 8 0 := by rw [f5, qU_l (by decide), f4, qU_s, f3, qU_l (by decide), f2, qU_l (by decide), f1, qU_l (by decide)]; exact hbk.2.2.2.1
    have v74 : M5 11 0 74 = tot := by rw [f5, qU_l (by decide), f4, qU_l (by decide), f3, qU_s, f2, qU_l (by decide), f1, qU_l (by decide)]; exact t1
    have v73 : M5 11 0 73 = 1 := by rw [f5, qU_l (by decide), f4, qU_l (by decide), f3, qU_l (by decide), f2, qU_s]
    have w0 : M5 11 0 0 = 0 := by rw [f5, qU_l (by decide), f4, qU_l (by decide), f3, qU_l (by decide), f2, qU_l (by decide), v0]; exact hx
    refine q_upto (P := fun x => 0 ≤ x → ∀ N, (∀ (k : Nat) (m s : Int), ¬ (m = 0 ∧ (k = 118 ∨ k = 119)) → N k m s = M5 k m s) → (∀ c, 0 ≤ c → c < x → N 118 0 c = M 114 0 c ∧ N 119 0 c = M 87 0 c) → b217_56 d h F x N) (a := 0) (b := 3) (by decide) (fun _ N O v => w217_56 hS ⟨fun q => absurd q (by decide), fun _ => ?_⟩) (fun x x0 x1 ih _ N O v => ?_) (Int.le_refl _) M5 (fun _ _ _ _ => rfl) (fun c a b => by omega)
    · refine q_upto (P := fun x => 0 ≤ x → ∀ N1, (∀ (k : Nat) (m s : Int), ¬ (m = 0 ∧ k = 120) → N1 k m s = N k m s) → (∀ c, 0 ≤ c → c < x → N1 120 0 c = M 68 0 c) → b217_93 d h F x N1) (a := 0) (b := 30) (by decide) (fun _ N1 O1 v1 => w217_93 hS ⟨fun q => absurd q (by decide), fun _ => ?_⟩) (fun x x0 x1 ih _ N1 O1 v1 => ?_) (Int.le_refl _) N (fun _ _ _ _ => rfl) (fun c a b => by omega)
      · refine q_upto (P := fun x => 0 ≤ x → ∀ N2, (∀ (k : Nat) (m s : Int), ¬ (m = 0 ∧ 121 ≤ k ∧ k ≤ 123) → N2 k m s = N1 k m s) → (∀ s, 0 ≤ s → s < x → N2 121 0 s = M 88 0 s ∧ N2 122 0 s = M 90 0 s ∧ N2 123 0 s = M 91 0 s) → b217_119 d h F x N2) (a := 0) (b := 210) (by decide) (fun _ N2 O2 v2 => w217_119 hS ⟨fun q => absurd q (by decide), fun _ => ?_⟩) (fun x x0 x1 ih _ N2 O2 v2 => ?_) (Int.le_refl _) N1 (fun _ _ _ _ => rfl) (fun c a b => by omega)
        · have OA : ∀ (k : Nat) (m s : Int), ¬ (m = 0 ∧ ((k = 11 ∧ (s = 0 ∨ (73 ≤ s ∧ s ≤ 76))) ∨ (118 ≤ k ∧ k ≤ 123))) → N2 k m s = M k m s := fun k m s q => by rw [O2 k m s (by omega), O1 k m s (by omega), O k m s (by omega), O5 k m s (by omega)]
          refine t219 hS hB2 (m_bk_fr hbk (fun k s q => OA _ _ _ (by omega))) (fun y a b k => by rw [OA _ _ _ (by omega), OA _ _ _ (by omega)]; exact hpl no y a b k) hG (fun M6 O6 w1 w2 w3 => ?_)
          refine t220 hS (n := tot) (by rw [O6 _ _ _ (by omega), OA _ _ _ (by omega)]; exact t1) ⟨t2, t3⟩ (fun M7 O7 w4 => ?_)
          have e58 : M7 11 0 58 = tot := by rw [O7 _ _ _ (by omega), O6 _ _ _ (by omega), OA _ _ _ (by omega)]; exact t1
          rw [e58]
          have O72 : ∀ (k : Nat) (m s : Int), ¬ (m = 0 ∧ 124 ≤ k ∧ k ≤ 135) → M7 k m s = N2 k m s := fun k m s q => by rw [O7 k m s (by omega), O6 k m s (by omega)]
          refine H no M7 (fun k m s q => by rw [O72 k m s (by omega)]; exact OA k m s (by omega)) ?_ ⟨⟨?_, ?_, ?_, ?_⟩, fun c a b => ?_, fun x a b => ?_, fun s a b => ?_, fun y a b => ?_, fun k a b => ?_, fun k a b => ?_, fun i p a b c => ?_⟩
          · rw [O72 _ _ _ (by omega), O2 _ _ _ (by omega), O1 _ _ _ (by omega), O _ _ _ (by omega)]; exact w0
          · rw [O72 _ _ _ (by omega), O2 _ _ _ (by omega), O1 _ _ _ (by omega), O _ _ _ (by omega)]; exact v73
          · rw [O72 _ _ _ (by omega), O2 _ _ _ (by omega), O1 _ _ _ (by omega), O _ _ _ (by omega)]; exact v74
          · rw [O72 _ _ _ (by omega), O2 _ _ _ (by omega), O1 _ _ _ (by omega), O _ _ _ (by omega)]; exact v75
          · rw [O72 _ _ _ (by omega), O2 _ _ _ (by omega), O1 _ _ _ (by omega), O _ _ _ (by omega)]; exact v76
          · rw [O72 _ _ _ (by omega), O72 _ _ _ (by omega), O2 _ _ _ (by omega), O2 _ _ _ (by omega), O1 _ _ _ (by omega), O1 _ _ _ (by omega)]; exact v c a b
          · rw [O72 _ _ _ (by omega), O2 _ _ _ (by omega)]; exact v1 x a b
          · rw [O72 _ _ _ (by omega), O72 _ _ _ (by omega), O72 _ _ _ (by omega)]; exact v2 s a b
          · rw [O7 _ _ _ (by omega)]; exact w1 y a b
          · rw [O7 _ _ _ (by omega), w2 k a b]; exact OA _ _ _ (by omega)
          · rw [O7 _ _ _ (by omega), O7 _ _ _ (by omega), (w3 k a b).1, (w3 k a b).2]; exact ⟨OA _ _ _ (by omega), OA _ _ _ (by omega)⟩
          · rw [w4 i p a b c, O6 _ _ _ (by omega)]; exact OA _ _ _ (by omega)
        · refine w217_119 hS ⟨fun _ => ⟨⟨x0, x1⟩, ⟨x0, x1⟩, fun L1 g1 => ⟨⟨x0, x1⟩, ⟨x0, x1⟩, fun L2 g2 => ⟨⟨x0, x1⟩, ⟨x0, x1⟩, fun L3 g3 => ⟨⟨by omega, by omega⟩, ?_⟩⟩⟩⟩, fun q => absurd x1 q⟩
          have OL : ∀ (k : Nat) (m s : Int), ¬ (m = 0 ∧ (121 ≤ k ∧ k ≤ 123) ∧ s = x) → L3 k m s = N2 k m s := fun k m s q => by rw [g3, g2, g1]; unfold qU; rw [if_neg (by omega), if_neg (by omega), if_neg (by omega)]
          refine ih (by omega) L3 (fun k m s q => by rw [OL k m s (by omega)]; exact O2 k m s q) (fun s a b => ?_)
          by_cases e : s = x
          · have z : ∀ k : Nat, (k = 88 ∨ k = 90 ∨ k = 91) → N2 k 0 x = M k 0 x := fun k q => by rw [O2 _ _ _ (by omega), O1 _ _ _ (by omega), O _ _ _ (by omega), O5 _ _ _ (by omega)]
            rw [e]
            refine ⟨?_, ?_, ?_⟩
            · rw [g3, qU_k (by decide), g2, qU_k (by decide), g1, qU_s]; exact z _ (by omega)
            · rw [g3, qU_k (by decide), g2, qU_s, g1, qU_k (by decide)]; exact z _ (by omega)
            · rw [g3, qU_s, g2, qU_k (by decide), g1, qU_k (by decide)]; exact z _ (by omega)
          · rw [OL _ _ _ (by omega), OL _ _ _ (by omega), OL _ _ _ (by omega)]; exact v2 s a (by omega)
      · refine w217_93 hS ⟨fun _ => ⟨⟨x0, x1⟩, ⟨x0, x1⟩, fun L1 g1 => ⟨⟨by omega, by omega⟩, ?_⟩⟩, fun q => absurd x1 q⟩
        refine ih (by omega) L1 (fun k m s q => by rw [g1]; unfold qU; rw [if_neg (by omega)]; exact O1 k m s q) (fun c a b => ?_)
        by_cases e : c = x
        · rw [e, g1, qU_s, O1 _ _ _ (by omega), O _ _ _ (by omega), O5 _ _ _ (by omega)]
        · rw [g1, qU_l e]; exact v1 c a (by omega)
    · refine w217_56 hS ⟨fun _ => ⟨⟨x0, x1⟩, ⟨x0, x1⟩, fun L1 g1 => ⟨⟨x0, x1⟩, ⟨x0, x1⟩, fun L2 g2 => ⟨⟨by omega, by omega⟩, ?_⟩⟩⟩, fun q => absurd x1 q⟩
      have OL : ∀ (k : Nat) (m s : Int), ¬ (m = 0 ∧ (k = 118 ∨ k = 119) ∧ s = x) → L2 k m s = N k m s := fun k m s q => by rw [g2, g1]; unfold qU; rw [if_neg (by omega), if_neg (by omega)]
      refine ih (by omega) L2 (fun k m s q => by rw [OL k m s (by omega)]; exact O k m s q) (fun c a b => ?_)
      by_cases e : c = x
      · rw [e]
        refine ⟨?_, ?_⟩
        · rw [g2, qU_k (by decide), g1, qU_s, O _ _ _ (by omega), O5 _ _ _ (by omega)]
        · rw [g2, qU_s, g1, qU_k (by decide), O _ _ _ (by omega), O5 _ _ _ (by omega)]
      · rw [OL _ _ _ (by omega), OL _ _ _ (by omega)]; exact v c a (by omega)
