/-! ===== FacingleafModel: pages without rows, heads, the paragraphs of a round ===== -/
theorem t196 {d : Nat} {h : qH} (hS : qSe h) {y p : Int} {M : qM} {F : qM → Prop} (hp : M 11 0 58 + 1 = p) (hp2 : 0 ≤ p ∧ p < 400)
    (H : ∀ M', (∀ (k : Nat) (m s : Int), ¬ (m = 0 ∧ ((k = 11 ∧ s = 58) ∨ (105 ≤ k ∧ k ≤ 113 ∧ s = p))) → M' k m s = M k m s) → M' 11 0 58 = p → M' 105 0 p = y → F M') : e196 (d + 2) h y M F :=
  w196 hS (t195 hS hp hp2 (Or.inr ⟨rfl, by omega, by omega⟩) (fun M' O a1 a2 _ => H M' (fun k m s q => O k m s (by omega)) a1 a2.1))
def b_hd (M : qM) (x : Int) : Int := if M 65 0 x = 0 then 0 else 1
theorem t203 {d : Nat} {h : qH} (hS : qSe h) {M : qM} {F : Int → qM → Prop} (H : F (p_sum (b_hd M) 30) M) : e203 (d + 1) h M F := by
  refine w203 hS ?_
  refine q_upto (P := fun x => 0 ≤ x → b203_4 d h F (p_sum (b_hd M) x) x M) (a := 0) (b := 30) (by omega) (fun _ => w203_4 hS ⟨fun q => by omega, fun _ => H⟩) (fun x x0 x1 ih _ => ?_) (by omega)
  have s := p_sum_s (g := b_hd M) (x := x) x0
  have b := b_sum_le (g := b_hd M) (a := 0) (b := x) (fun y => by unfold b_hd; split <;> omega) (by omega) x0
  have z : p_sum (b_hd M) 0 = 0 := rfl
  refine w203_4 hS ⟨fun _ => ⟨⟨x0, x1⟩, fun y hy => ?_⟩, fun q => by omega⟩
  have e : y = b_hd M x := hy
  have b1 : 0 ≤ b_hd M x ∧ b_hd M x ≤ 1 := by unfold b_hd; split <;> omega
  rw [e]
  refine ⟨⟨by omega, by omega⟩, ⟨by omega, by omega⟩, ?_⟩
  rw [← s]
  exact ih (by omega)
/-- a paragraph is broken anew -/
noncomputable def m_rg (M : qM) (x : Int) : Int := if x % 10 < M 64 0 (x / 10) then @ite Int (M 65 0 x = 0 ∧ ¬ p_mkept M x) (Classical.propDecidable _) 1 0 else 0
theorem m_rg_b {M : qM} {x : Int} : 0 ≤ m_rg M x ∧ m_rg M x ≤ 1 := by
  unfold m_rg
  split
  · split <;> omega
  · omega
def m_new (M M' : qM) (W x : Int) : Prop := M' 79 0 x = W ∧ (∀ j, 0 ≤ j → j < M 67 0 x → M' 80 0 (20 * x + j) = M 69 0 (20 * x + j) + M 76 0 (20 * x + j)) ∧ p_lined (fun i => M 69 0 (20 * x + i) + M 76 0 (20 * x + i)) (M 67 0 x) W (M' 81 0 x) (M' 83 0 x) (fun s => M' 82 0 (20 * x + s))
def m_same (M M' : qM) (x : Int) : Prop := M' 79 0 x = M 79 0 x ∧ M' 81 0 x = M 81 0 x ∧ M' 83 0 x = M 83 0 x ∧ ∀ j, 0 ≤ j → j < 20 → M' 80 0 (20 * x + j) = M 80 0 (20 * x + j) ∧ M' 82 0 (20 * x + j) = M 82 0 (20 * x + j)
def m_item (M M' : qM) (W x : Int) : Prop := (m_rg M x = 1 → m_new M M' W x) ∧ (m_rg M x = 0 → m_same M M' x)
def frMr (M M' : qM) : Prop := ∀ (k : Nat) (m s : Int), ¬ (m = 0 ∧ ((79 ≤ k ∧ k ≤ 83 ∧ 0 ≤ s) ∨ (84 ≤ k ∧ k ≤ 86) ∨ (k = 11 ∧ s = 23) ∨ ((k = 114 ∨ k = 115 ∨ k = 87 ∨ k = 116 ∨ k = 94 ∨ k = 96) ∧ 0 ≤ s ∧ s < 3))) → M' k m s = M k m s
def m_dn (M M' : qM) (W X C : Int) : Prop := frMr M M' ∧ M' 11 0 23 = M 11 0 23 + p_sum (m_rg M) X ∧ (∀ x, 0 ≤ x → x < X → m_item M M' W x) ∧ (∀ x, X ≤ x → m_same M M' x) ∧ ∀ c, 0 ≤ c → c < C → M' 114 0 c = -1 ∧ M' 115 0 c = -1 ∧ M' 87 0 c = 0 ∧ M' 116 0 c = 0
theorem m_same_tr {M M1 M2 : qM} {x : Int} (h1 : m_same M M1 x) (h2 : m_same M1 M2 x) : m_same M M2 x := by
  obtain ⟨a1, a2, a3, a4⟩ := h1
  obtain ⟨b1, b2, b3, b4⟩ := h2
  exact ⟨by rw [b1, a1], by rw [b2, a2], by rw [b3, a3], fun j j0 j1 => ⟨by rw [(b4 j j0 j1).1, (a4 j j0 j1).1], by rw [(b4 j j0 j1).2, (a4 j j0 j1).2]⟩⟩
theorem p_lined_cg {w : Int → Int} {n W lc lcost : Int} {le le' : Int → Int} (h : p_lined w n W lc lcost le) (hl : ∀ s, 0 ≤ s → s < n → le' s = le s) : p_lined w n W lc lcost le' := by
  obtain ⟨C, L, E, h1, h2, h3, h4, h5, h6⟩ := h
  exact ⟨C, L, E, h1, h2, h3, h4, h5, fun s hs => by rw [hl s (by omega) (by omega)]; exact h6 s hs⟩
theorem m_item_tr {M M1 M2 : qM} {W x : Int} (hn : 0 ≤ M 67 0 x ∧ M 67 0 x ≤ 20) (h1 : m_item M M1 W x) (h2 : m_same M1 M2 x) : m_item M M2 W x := by
  refine ⟨fun q => ?_, fun q => m_same_tr (h1.2 q) h2⟩
  obtain ⟨a1, a2, a3⟩ := h1.1 q
  obtain ⟨b1, b2, b3, b4⟩ := h2
  refine ⟨by rw [b1, a1], fun j j0 j1 => by rw [(b4 j j0 (by omega)).1]; exact a2 j j0 j1, ?_⟩
  rw [b2, b3]
  exact p_lined_cg a3 (fun s s0 s1 => (b4 s s0 (by omega)).2)
theorem t204_49 {d : Nat} {h : qH} (hS : qSe h) {x1 x3 W : Int} {u2 u5 : qV} {M : qM} {f : Int → qM → Prop} (hW1 : M 11 0 1 = W) (hW : 8 ≤ W ∧ W ≤ 30) (hcn : ∀ c, 0 ≤ c → c < 3 → 0 ≤ M 64 0 c ∧ M 64 0 c ≤ 10) (hn : ∀ x, 0 ≤ M 67 0 x ∧ M 67 0 x ≤ 20) (hw : ∀ i, 0 ≤ M 69 0 i + M 76 0 i ∧ M 69 0 i + M 76 0 i ≤ 16) (hbr : 0 ≤ M 11 0 23 ∧ M 11 0 23 ≤ 900000)
    (H : ∀ M' u, m_dn M M' W 30 3 → b204_176 d h f x1 u2 x3 0 u M') : b204_49 d h f x1 u2 x3 0 u5 M := by
  have sum_b : ∀ x, 0 ≤ x → 0 ≤ p_sum (m_rg M) x ∧ p_sum (m_rg M) x ≤ x := fun x x0 => by
    have := b_sum_le (g := m_rg M) (a := 0) (b := x) (fun _ => m_rg_b) (by omega) x0
    have z : p_sum (m_rg M) 0 = 0 := rfl
    omega
  refine q_upto (P := fun c => 0 ≤ c → ∀ M1 u, m_dn M M1 W (10 * c) c → b204_49 d h f x1 u2 x3 c u M1) (a := 0) (b := 3) (by omega) (fun _ M1 u D1 => w204_49 hS ⟨fun q => by omega, fun _ => H M1 u (by rw [show (30 : Int) = 10 * 3 by omega]; exact D1)⟩) (fun c c0 c3 ih _ M1 u D1 => ?_) (by omega) M _ ⟨fun _ _ _ _ => rfl, by rw [show (10 : Int) * 0 = 0 by omega, p_sum_0]; omega, fun x a b => by omega, fun _ _ => ⟨rfl, rfl, rfl, fun _ _ _ => ⟨rfl, rfl⟩⟩, fun c a b => by omega⟩
  obtain ⟨O1, d1, i1, s1, k1⟩ := D1
  have cc := hcn c c0 c3
  refine w204_49 hS ⟨fun _ => ⟨⟨c0, c3⟩, fun N1 f1 => ⟨⟨c0, c3⟩, fun N2 f2 => ⟨⟨c0, c3⟩, fun N3 f3 => ⟨⟨c0, c3⟩, fun N4 f4 => ⟨⟨c0, c3⟩, fun N5 f5 => ⟨⟨c0, c3⟩, fun N6 f6 => ?_⟩⟩⟩⟩⟩⟩, fun q => by omega⟩
  have O6 : ∀ (k : Nat) (m s : Int), ¬ (m = 0 ∧ (k = 114 ∨ k = 115 ∨ k = 87 ∨ k = 116 ∨ k = 94 ∨ k = 96) ∧ s = c) → N6 k m s = M1 k m s := fun k m s q => by
    rw [f6, f5, f4, f3, f2, f1]; unfold qU
    rw [if_neg (by omega), if_neg (by omega), if_neg (by omega), if_neg (by omega), if_neg (by omega), if_neg (by omega)]
  have v1 : N6 114 0 c = -1 := by rw [f6, qU_k (by decide), f5, qU_k (by decide), f4, qU_k (by decide), f3, qU_k (by decide), f2, qU_k (by decide), f1, qU_s]
  have v2 : N6 115 0 c = -1 := by rw [f6, qU_k (by decide), f5, qU_k (by decide), f4, qU_k (by decide), f3, qU_k (by decide), f2, qU_s]
  have v3 : N6 87 0 c = 0 := by rw [f6, qU_k (by decide), f5, qU_k (by decide), f4, qU_k (by decide), f3, qU_s]
  have v4 : N6 116 0 c = 0 := by rw [f6, qU_k (by decide), f5, qU_k (by decide), f4, qU_s]
  have sm6 : ∀ x, m_same M1 N6 x := fun x => ⟨O6 _ _ _ (by omega), O6 _ _ _ (by omega), O6 _ _ _ (by omega), fun j _ _ => ⟨O6 _ _ _ (by omega), O6 _ _ _ (by omega)⟩⟩
  have D6 : m_dn M N6 W (10 * c) (c + 1) := ⟨fun k m s q => by rw [O6 k m s (by omega)]; exact O1 k m s q, by rw [O6 11 0 23 (by omega)]; exact d1, fun x a b => m_item_tr (hn x) (i1 x a b) (sm6 x), fun x a => m_same_tr (s1 x a) (sm6 x), fun c' a b => by
    by_cases q : c' = c
    · rw [q]; exact ⟨v1, v2, v3, v4⟩
    · rw [O6 114 0 c' (by omega), O6 115 0 c' (by omega), O6 87 0 c' (by omega), O6 116 0 c' (by omega)]; exact k1 c' a (by omega)⟩
  have gap : ∀ (N : qM) (X Y : Int), 0 ≤ X → X ≤ Y → (∀ x, X ≤ x → x < Y → m_rg M x = 0) → m_dn M N W X (c + 1) → m_dn M N W Y (c + 1) := fun N X Y X0 XY hz ⟨g1, g2, g3, g4, g5⟩ => ⟨g1, by rw [b_gap X0 XY hz]; exact g2, fun x a b => by
    by_cases q : x < X
    · exact g3 x a q
    · have := hz x (by omega) b
      exact ⟨fun z => by omega, fun _ => g4 x (by omega)⟩, fun x a => g4 x (by omega), g5⟩
  refine q_upto (P := fun i => 0 ≤ i → ∀ N, m_dn M N W (10 * c + i) (c + 1) → b204_106 d h f x1 u2 x3 c i N) (a := 0) (b := M 64 0 c) cc.1 (fun _ N D => ?_) (fun i i0 i1' ihi _ N D => ?_) (by omega) N6 (by rw [show 10 * c + 0 = 10 * c by omega]; exact D6)
  · have e64 : N 64 0 c = M 64 0 c := D.1 _ _ _ (by omega)
    refine w204_106 hS ⟨⟨c0, c3⟩, fun q => by omega, fun _ => ⟨⟨by omega, by omega⟩, ih (by omega) N _ (gap N (10 * c + M 64 0 c) (10 * (c + 1)) (by omega) (by omega) (fun x a b => ?_) D)⟩⟩
    unfold m_rg; rw [show x / 10 = c by omega, if_neg (by omega)]
  · have e64 : N 64 0 c = M 64 0 c := D.1 _ _ _ (by omega)
    obtain ⟨g1, g2, g3, g4, g5⟩ := id D
    generalize hx : 10 * c + i = x at *
    have e65 : N 65 0 x = M 65 0 x := g1 _ _ _ (by omega)
    have e67 : N 67 0 x = M 67 0 x := g1 _ _ _ (by omega)
    have e1 : N 11 0 1 = M 11 0 1 := g1 _ _ _ (by omega)
    have e69 : ∀ j, N 69 0 j + N 76 0 j = M 69 0 j + M 76 0 j := fun j => by rw [g1 69 _ _ (by omega), g1 76 _ _ (by omega)]
    have sx := g4 x (Int.le_refl _)
    have nx := hn x
    have kp : p_mkept N x ↔ p_mkept M x := by
      unfold p_mkept
      rw [sx.1, e1, e67]
      exact ⟨fun z => ⟨z.1, fun j a b => by rw [← (sx.2.2.2 j a (by omega)).1, ← e69]; exact z.2 j a b⟩, fun z => ⟨z.1, fun j a b => by rw [(sx.2.2.2 j a (by omega)).1, e69]; exact z.2 j a b⟩⟩
    have sm := p_sum_s (g := m_rg M) (x := x) (by omega)
    have sb := sum_b x (by omega)
    have nxt : 10 * c + (i + 1) = x + 1 := by omega
    rw [nxt] at ihi
    have no : ¬ (M 65 0 x = 0 ∧ ¬ p_mkept M x) → qIn (i + 1) ∧ b204_106 d h f x1 u2 x3 c (i + 1) N := fun q => by
      refine ⟨⟨by omega, by omega⟩, ihi (by omega) N (gap N x (x + 1) (by omega) (by omega) (fun y a b => ?_) D)⟩
      rw [show y = x by omega]
      unfold m_rg
      rw [if_neg q]
      split <;> rfl
    refine w204_106 hS ⟨⟨c0, c3⟩, fun _ => ⟨⟨by omega, by omega⟩, ⟨by omega, by omega⟩, ⟨by omega, by omega⟩, ?_⟩, fun q => by omega⟩
    rw [hx]
    refine ⟨fun q0 => ⟨⟨by omega, by omega⟩, ⟨by omega, by omega⟩, t176 hS ⟨by omega, by omega⟩ (by rw [e67]; exact nx) (fun j => by rw [e69]; exact hw j) (fun qk => ⟨fun z => absurd z (by decide), fun _ => no (fun z => z.2 (kp.mp qk))⟩) (fun qk => ⟨fun _ => ⟨⟨by omega, by omega⟩, ⟨by omega, by omega⟩, ?_⟩, fun z => absurd rfl z⟩)⟩, fun q0 => no (fun z => q0 (by omega))⟩
    have r1 : m_rg M x = 1 := by
      unfold m_rg
      rw [show x / 10 = c by omega, if_pos (by omega), if_pos ⟨by omega, fun z => qk (kp.mpr z)⟩]
    refine t178 hS (n := M 67 0 x) (W := W) ⟨by omega, by omega⟩ e67 nx (by rw [e1]; exact hW1) hW (fun j => by rw [e69]; exact hw j) ⟨by omega, by omega⟩ (fun M9 O9 a1 a2 a3 a4 => ⟨⟨by omega, by omega⟩, ihi (by omega) M9 ⟨fun k m s q => by rw [O9 k m s (by omega)]; exact g1 k m s q, by omega, fun y y0 y1 => ?_, fun y y0 => ?_, fun c' a b => by rw [O9 114 0 c' (by omega), O9 115 0 c' (by omega), O9 87 0 c' (by omega), O9 116 0 c' (by omega)]; exact g5 c' a b⟩⟩)
    · by_cases q : y = x
      · rw [q]
        refine ⟨fun _ => ⟨a1, fun j j0 j1 => by rw [a3 j j0 j1]; exact e69 _, ?_⟩, fun z => by omega⟩
        rw [show (fun i => N 69 0 (20 * x + i) + N 76 0 (20 * x + i)) = (fun i => M 69 0 (20 * x + i) + M 76 0 (20 * x + i)) from by funext j; exact e69 _] at a4
        exact a4
      · exact m_item_tr (hn y) (g3 y y0 (by omega)) ⟨O9 _ _ _ (by omega), O9 _ _ _ (by omega), O9 _ _ _ (by omega), fun j _ _ => ⟨O9 _ _ _ (by omega), O9 _ _ _ (by omega)⟩⟩
    · exact m_same_tr (g4 y (by omega)) ⟨O9 _ _ _ (by omega), O9 _ _ _ (by omega), O9 _ _ _ (by omega), fun j _ _ => ⟨O9 _ _ _ (by omega), O9 _ _ _ (by omega)⟩⟩
