/-! ===== lines of the index ===== -/
theorem x_idx_iv {K V G : Int → Int} {t : Int} {M : qM} (h : x_idx K V G t 600 M) (hG : ∀ y, 0 ≤ y → y < 600 → K y ≠ 0 → 1 ≤ G y ∧ G y ≤ 398) : x_iv (M 27 0 t) (M 29 t) (M 31 t) (x_on K V G t 600) := by
  obtain ⟨h1, h2, h3, h4⟩ := h
  refine ⟨h1.1, fun i a b => ?_, h3, h4⟩
  have x := h2 i a b
  obtain ⟨y, y1, y2, y3, y4⟩ := (h4 (M 31 t i)).mpr ⟨i, ⟨a, b⟩, x.2.1, Int.le_refl _⟩
  have := hG y y1.1 y1.2 (by omega)
  omega
def x_L (n al : Int → Int) : Int := p_sum (fun t => (n t + 2) / 3 + (if al t < 0 then 0 else 1)) 10
theorem x_L_b {n al : Int → Int} (hn : ∀ t, 0 ≤ t → t < 10 → 0 ≤ n t ∧ n t ≤ 200) (x : Int) (x0 : 0 ≤ x) (x1 : x ≤ 10) : 0 ≤ p_sum (fun t => (n t + 2) / 3 + (if al t < 0 then 0 else 1)) x ∧ p_sum (fun t => (n t + 2) / 3 + (if al t < 0 then 0 else 1)) x ≤ 100 * x := by
  refine q_upto (P := fun z => 0 ≤ z → (0 ≤ p_sum (fun t => (n t + 2) / 3 + (if al t < 0 then 0 else 1)) z ∧ p_sum (fun t => (n t + 2) / 3 + (if al t < 0 then 0 else 1)) z ≤ 100 * z) → (0 ≤ p_sum (fun t => (n t + 2) / 3 + (if al t < 0 then 0 else 1)) x ∧ p_sum (fun t => (n t + 2) / 3 + (if al t < 0 then 0 else 1)) x ≤ 100 * x)) x0 (fun _ q => q) (fun z z0 z1 ih _ q => ih (by omega) ?_) (Int.le_refl _) (by rw [p_sum_0]; omega)
  have s := p_sum_s (g := fun t => (n t + 2) / 3 + (if al t < 0 then (0 : Int) else 1)) z0
  have hz := hn z z0 (by omega)
  rw [s]
  show 0 ≤ p_sum _ z + ((n z + 2) / 3 + (if al z < 0 then 0 else 1)) ∧ p_sum _ z + ((n z + 2) / 3 + (if al z < 0 then 0 else 1)) ≤ 100 * (z + 1)
  split <;> omega
theorem t40 {d : Nat} {h : qH} (hS : qSe h) {D : Int} {M : qM} {F : qM → Prop} (hD : 8 ≤ D ∧ D ≤ 14) (hn : ∀ t, 0 ≤ t → t < 10 → 0 ≤ M 27 0 t ∧ M 27 0 t ≤ 200)
    (H : ∀ M', (∀ (k : Nat) (m s : Int), ¬ (k = 4 ∧ m = 0 ∧ 3 ≤ s ∧ s ≤ 5) → M' k m s = M k m s) → M' 4 0 5 = D → M' 4 0 3 = x_L (M 27 0) (M 63 0) → M' 4 0 4 = (x_L (M 27 0) (M 63 0) + 2 * D - 1) / (2 * D) → F M') : e40 (d + 1) h D M F := by
  refine w40 hS (fun M1 f1 M2 f2 => ?_)
  have O2 : ∀ (k : Nat) (m s : Int), ¬ (k = 4 ∧ m = 0 ∧ 3 ≤ s ∧ s ≤ 5) → M2 k m s = M k m s := fun k m s q => by rw [f2, f1]; unfold qU; rw [if_neg (by omega), if_neg (by omega)]
  have v5 : M2 4 0 5 = D := by rw [f2, qU_l (by decide), f1, qU_s]
  have v3 : M2 4 0 3 = 0 := by rw [f2, qU_s]
  refine q_upto (P := fun t => 0 ≤ t → ∀ N, (∀ (k : Nat) (m s : Int), ¬ (k = 4 ∧ m = 0 ∧ 3 ≤ s ∧ s ≤ 5) → N k m s = M k m s) → N 4 0 5 = D → N 4 0 3 = p_sum (fun t => (M 27 0 t + 2) / 3 + (if M 63 0 t < 0 then 0 else 1)) t → b40_12 d h F D t N) (a := 0) (b := 10) (by decide) (fun _ N O w5 w3 => ?_) (fun t t0 t1 ih _ N O w5 w3 => ?_) (Int.le_refl _) M2 O2 v5 (by rw [v3]; rfl)
  · have lb := x_L_b (al := M 63 0) hn 10 (by decide) (by decide)
    have el : N 4 0 3 = x_L (M 27 0) (M 63 0) := w3
    have lb' : 0 ≤ x_L (M 27 0) (M 63 0) ∧ x_L (M 27 0) (M 63 0) ≤ 1000 := lb
    refine w40_12 hS ⟨fun q => absurd q (by decide), fun _ => ⟨fun _ => ?_, fun y hy M4 f4 => ?_⟩⟩
    · rw [el]; exact ⟨⟨by omega, by omega⟩, ⟨by omega, by omega⟩, ⟨by omega, by omega⟩, ⟨by omega, by omega⟩, by omega, by omega⟩
    · rw [if_neg (by omega), el] at hy
      refine H M4 (fun k m s q => by rw [f4]; unfold qU; rw [if_neg (by omega)]; exact O k m s q) (by rw [f4, qU_l (by decide)]; exact w5) (by rw [f4, qU_l (by decide)]; exact el) (by rw [f4, qU_s, hy])
  · have b := hn t t0 t1
    have lb := x_L_b (al := M 63 0) hn t t0 (by omega)
    have s := p_sum_s (g := fun t => (M 27 0 t + 2) / 3 + (if M 63 0 t < 0 then (0 : Int) else 1)) t0
    have e27 : N 27 0 t = M 27 0 t := O _ _ _ (by omega)
    have e63 : N 63 0 t = M 63 0 t := O _ _ _ (by omega)
    refine w40_12 hS ⟨fun _ => ?_, fun q => absurd t1 q⟩
    rw [e27, w3, show M 27 0 t + 3 - 1 = M 27 0 t + 2 by omega]
    refine ⟨⟨t0, t1⟩, ⟨by omega, by omega⟩, ⟨by omega, by omega⟩, by omega, ⟨t0, t1⟩, fun y hy => ?_⟩
    rw [e63] at hy
    have yb : 0 ≤ y ∧ y ≤ 1 := by rw [hy]; split <;> omega
    refine ⟨⟨by omega, by omega⟩, ⟨by omega, by omega⟩, fun N1 f1 => ⟨⟨by omega, by omega⟩, ih (by omega) N1 (fun k m s q => by rw [f1]; unfold qU; rw [if_neg (by omega)]; exact O k m s q) (by rw [f1, qU_l (by decide)]; exact w5) ?_⟩⟩
    rw [f1, qU_s, s, hy]
def x_col (D L x : Int) : Int := if x - x / (2 * D) * 2 * D < ((if x / (2 * D) = (L + 2 * D - 1) / (2 * D) - 1 then L - x / (2 * D) * 2 * D else 2 * D) + 1) / 2 then 0 else 1
theorem t42 {d : Nat} {h : qH} (hS : qSe h) {D L x : Int} {M : qM} {F : Int → qM → Prop} (hD : 8 ≤ D ∧ D ≤ 14) (h5 : M 4 0 5 = D) (h3 : M 4 0 3 = L) (h4 : M 4 0 4 = (L + 2 * D - 1) / (2 * D)) (hx : 0 ≤ x ∧ x < L) (hL : L ≤ 1000) (H : F (x_col D L x) M) : e42 (d + 2) h x M F := by
  refine w42 hS (t41 hS h5 ⟨by omega, hD.2⟩ ⟨hx.1, by omega⟩ ?_)
  rw [show (if D ≤ 0 then (0 : Int) else x / (2 * D)) = x / (2 * D) from if_neg (by omega), h5, h3, h4]
  have dd : D = 8 ∨ D = 9 ∨ D = 10 ∨ D = 11 ∨ D = 12 ∨ D = 13 ∨ D = 14 := by omega
  have n1 : 0 ≤ (L + 2 * D - 1) / (2 * D) ∧ (L + 2 * D - 1) / (2 * D) ≤ 1000 := by rcases dd with rfl | rfl | rfl | rfl | rfl | rfl | rfl <;> omega
  have n2 : (0 ≤ x / (2 * D) * 2 ∧ x / (2 * D) * 2 ≤ 1000) ∧ 0 ≤ x / (2 * D) * 2 * D ∧ x / (2 * D) * 2 * D ≤ x := by rcases dd with rfl | rfl | rfl | rfl | rfl | rfl | rfl <;> omega
  refine ⟨⟨by omega, by omega⟩, fun y hy => ⟨⟨fun _ => ⟨by omega, by omega⟩, fun _ => ⟨⟨by omega, by omega⟩, ⟨by omega, by omega⟩, ⟨by omega, by omega⟩⟩⟩, fun z hz => ⟨⟨by omega, by omega⟩, ⟨by omega, by omega⟩, ⟨by omega, by omega⟩, ?_⟩⟩⟩
  have zb : 0 ≤ z ∧ z ≤ 1000 := by rw [hz]; split <;> omega
  refine ⟨⟨by omega, by omega⟩, by omega, fun w hw => ?_⟩
  have e : w = x_col D L x := by
    rw [hw]
    unfold x_col
    by_cases c : x / (2 * D) = (L + 2 * D - 1) / (2 * D) - 1
    · rw [if_pos c] at hy
      rw [hy, if_neg (by decide)] at hz
      rw [hz, if_pos c]
    · rw [if_neg c] at hy
      rw [hy, if_pos rfl] at hz
      rw [hz, if_neg c]
  rw [e]; exact H
/-- the line of the index, in the model's words -/
theorem x_col_m {D L x : Int} (hD : 8 ≤ D ∧ D ≤ 14) (hx : 0 ≤ x ∧ x < L) : (if x % (2 * D) < (if (if 2 * D < L - x / (2 * D) * 2 * D then 2 * D else L - x / (2 * D) * 2 * D) = 2 * D then D else ((if 2 * D < L - x / (2 * D) * 2 * D then 2 * D else L - x / (2 * D) * 2 * D) + 1) / 2) then (0 : Int) else 1) = x_col D L x := by
  have dd : D = 8 ∨ D = 9 ∨ D = 10 ∨ D = 11 ∨ D = 12 ∨ D = 13 ∨ D = 14 := by omega
  unfold x_col
  by_cases q : 2 * D < L - x / (2 * D) * 2 * D
  · have e : ¬ x / (2 * D) = (L + 2 * D - 1) / (2 * D) - 1 := by rcases dd with rfl | rfl | rfl | rfl | rfl | rfl | rfl <;> omega
    rw [if_pos q, if_pos rfl, if_neg e]
    clear e q
    rcases dd with rfl | rfl | rfl | rfl | rfl | rfl | rfl <;> (split <;> split <;> omega)
  · have e : x / (2 * D) = (L + 2 * D - 1) / (2 * D) - 1 := by rcases dd with rfl | rfl | rfl | rfl | rfl | rfl | rfl <;> omega
    rw [if_neg q, if_pos e]
    have e2 : (if L - x / (2 * D) * 2 * D = 2 * D then D else (L - x / (2 * D) * 2 * D + 1) / 2) = (L - x / (2 * D) * 2 * D + 1) / 2 := by split <;> omega
    rw [e2]
    clear e2 e q
    rcases dd with rfl | rfl | rfl | rfl | rfl | rfl | rfl <;> (split <;> split <;> omega)
