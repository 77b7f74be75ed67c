/-! ===== FacingleafModel: pages without rows, heads, the paragraphs of a round ===== -/
theorem t196 {d : Nat} {h : qH} (hS : qSe h) {y p : Int} {M : qM} {F : qM → Prop} (hp : M 11 0 58 + 1 = p) (hp2 : 0 ≤ p ∧ p < 400)
    (H : ∀ M', (∀ (k : Nat) (m s : Int), ¬ (m = 0 ∧ ((k = 11 ∧ s = 58) ∨ (105 ≤ k ∧ k ≤ 113 ∧ s = p))) → M' k m s = M k m s) → M' 11 0 58 = p → M' 105 0 p = y → F M') : e196 (d + 2) h y M F :=
  w196 hS (t195 hS hp hp2 (Or.inr ⟨rfl, by omega, by omega⟩) (fun M' O a1 a2 _ => H M' (fun k m s q => O k m s (by omega)) a1 a2.1))
def b_hd (M : qM) (x : Int) : Int := if M 65 0 x = 0 then 0 else 1
theorem t203 {d : Nat} {h : qH} (hS : qSe h) {M : qM} {F : Int → qM → Prop} (H : F (p_sum (b_hd M) 30) M) : e203 (d + 1) h M F := by
  refine w203 hS ?_
  refine q_upto (P := fun x => 0 ≤ x → b203_4 d h F (p_sum (b_hd M) x) x M) (a := 0) (b := 30) (by omega) (fun _ => w203_4 hS ⟨fun q => by omega, fun _ => H⟩) (fun x x0 x1 ih _ => ?_) (by omega)
  have s := p_sum_s (g := b_hd M) (x := x) x0
  have b := b_sum_le (g := b_hd M) (a := 0) (b := x) (fun y => by unfold b_hd; split <;> omega) (by omega) x0
  have z : p_sum (b_hd M) 0 = 0 := rfl
  refine w203_4 hS ⟨fun _ => ⟨⟨x0, x1⟩, fun y hy => ?_⟩, fun q => by omega⟩
  have e : y = b_hd M x := hy
  have b1 : 0 ≤ b_hd M x ∧ b_hd M x ≤ 1 := by unfold b_hd; split <;> omega
  rw [e]
  refine ⟨⟨by omega, by omega⟩, ⟨by omega, by omega⟩, ?_⟩
  rw [← s]
  exact ih (by omega)
/-- a paragraph is broken anew -/
noncomputable def m_rg (M : qM) (x : Int) : Int := if x % 10 < M 64 0 (x / 10) then @ite Int (M 65 0 x = 0 ∧ ¬ p_mkept M x) (Classical.propDecidable _) 1 0 else 0
theorem m_rg_b {M : qM} {x : Int} : 0 ≤ m_rg M x ∧ m_rg M x ≤ 1 := by
  unfold m_rg
  split
  · split <;> omega
  · omega
def m_new (M M' : qM) (W x : Int) : Prop := M' 79 0 x = W ∧ (∀ j, 0 ≤ j → j < M 67 0 x → M' 80 0 (20 * x + j) = M 69 0 (20 * x + j) + M 76 0 (20 * x + j)) ∧ p_lined (fun i => M 69 0 (20 * x + i) + M 76 0 (20 * x + i)) (M 67 0 x) W (M' 81 0 x) (M' 83 0 x) (fun s => M' 82 0 (20 * x + s))
def m_same (M M' : qM) (x : Int) : Prop := M' 79 0 x = M 79 0 x ∧ M' 81 0 x = M 81 0 x ∧ M' 83 0 x = M 83 0 x ∧ ∀ j, 0 ≤ j → j < 20 → M' 80 0 (20 * x + j) = M 80 0 (20 * x + j) ∧ M' 82 0 (20 * x + j) = M 82 0 (20 * x + j)
def m_item (M M' : qM) (W x : Int) : Prop := (m_rg M x = 1 → m_new M M' W x) ∧ (m_rg M x = 0 → m_same M M' x)
def frMr (M M' : qM) : Prop := ∀ (k : Nat) (m s : Int), ¬ (m = 0 ∧ ((79 ≤ k ∧ k ≤ 86) ∨ (k = 11 ∧ s = 23) ∨ ((k = 114 ∨ k = 115 ∨ k = 87 ∨ k = 116 ∨ k = 94 ∨ k = 96) ∧ 0 ≤ s ∧ s < 3))) → M' k m s = M k m s
def m_done (M M' : qM) (W X C : Int) : Prop := frMr M M' ∧ M' 11 0 23 = M 11 0 23 + p_sum (m_rg M) X ∧ (∀ x, 0 ≤ x → x < X → m_item M M' W x) ∧ (∀ x, X ≤ x → m_same M M' x) ∧ ∀ c, 0 ≤ c → c < C → M' 114 0 c = -1 ∧ M' 115 0 c = -1 ∧ M' 87 0 c = 0 ∧ M' 116 0 c = 0
theorem m_same_tr {M M1 M2 : qM} {x : Int} (h1 : m_same M M1 x) (h2 : m_same M1 M2 x) : m_same M M2 x := by
  obtain ⟨a1, a2, a3, a4⟩ := h1
  obtain ⟨b1, b2, b3, b4⟩ := h2
  exact ⟨by rw [b1, a1], by rw [b2, a2], by rw [b3, a3], fun j j0 j1 => ⟨by rw [(b4 j j0 j1).1, (a4 j j0 j1).1], by rw [(b4 j j0 j1).2, (a4 j j0 j1).2]⟩⟩
theorem m_item_tr {M M1 M2 : qM} {W x : Int} (hn : 0 ≤ M 67 0 x ∧ M 67 0 x ≤ 20) (h1 : m_item M M1 W x) (h2 : m_same M1 M2 x) (h3 : ∀ s, M2 82 0 (20 * x + s) = M1 82 0 (20 * x + s)) : m_item M M2 W x := by
  refine ⟨fun q => ?_, fun q => m_same_tr (h1.2 q) h2⟩
  obtain ⟨a1, a2, a3⟩ := h1.1 q
  obtain ⟨b1, b2, b3, b4⟩ := h2
  refine ⟨by rw [b1, a1], fun j j0 j1 => by rw [(b4 j j0 (by omega)).1]; exact a2 j j0 j1, ?_⟩
  rw [b2, b3, show (fun s => M2 82 0 (20 * x + s)) = (fun s => M1 82 0 (20 * x + s)) from by funext s; exact h3 s]
  exact a3
