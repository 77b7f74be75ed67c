/-! ===== FacingleafModel: the words, the text of a reference, the number of a note ===== -/
/-- the words of the book in the model's memory: kinds (0: none, or a plain one) and values -/
def b_wd (K V : Int → Int) (M : qM) : Prop := ∀ x, 0 ≤ x → x < 600 → (if x % 20 < M 67 0 (x / 20) then M 70 0 x else 0) = K x ∧ (K x ≠ 0 → M 71 0 x = V x)
/-- the pages of its words -/
def b_pl (K G : Int → Int) (M : qM) : Prop := ∀ x, 0 ≤ x → x < 600 → K x ≠ 0 → (0 ≤ M 93 0 x ∧ M 93 0 x < 70) ∧ M 92 0 (70 * (x / 200) + M 93 0 x) = G x
def b_labN (K V : Int → Int) (l : Int) : Nat → Int
  | 0 => -1
  | j + 1 => if K j = 1 ∧ V j = l then (j : Int) else b_labN K V l j
/-- the last word before x that is the label l; -1 for none -/
def b_lab (K V : Int → Int) (l x : Int) : Int := b_labN K V l x.toNat
theorem b_lab_s {K V : Int → Int} {l x : Int} (h : 0 ≤ x) : b_lab K V l (x + 1) = if K x = 1 ∧ V x = l then x else b_lab K V l x := by
  unfold b_lab
  rw [show (x + 1).toNat = x.toNat + 1 by omega]
  show (if K (x.toNat : Int) = 1 ∧ V (x.toNat : Int) = l then (x.toNat : Int) else b_labN K V l x.toNat) = _
  rw [show (x.toNat : Int) = x by omega]
theorem b_lab_p {K V : Int → Int} {l : Int} : ∀ (n : Nat), b_lab K V l n = -1 ∨ (0 ≤ b_lab K V l n ∧ b_lab K V l n < n ∧ K (b_lab K V l n) = 1 ∧ V (b_lab K V l n) = l) := by
  intro n
  induction n with
  | zero => left; rfl
  | succ n ih =>
    have s := b_lab_s (K := K) (V := V) (l := l) (x := (n : Int)) (by omega)
    rw [show ((n + 1 : Nat) : Int) = (n : Int) + 1 by omega, s]
    by_cases q : K (n : Int) = 1 ∧ V (n : Int) = l
    · rw [if_pos q]; right; exact ⟨by omega, by omega, q.1, q.2⟩
    · rw [if_neg q]
      rcases ih with ih | ih
      · left; exact ih
      · right; exact ⟨ih.1, by omega, ih.2.2.1, ih.2.2.2⟩
/-- what stands for a reference on page p to a label on page q -/
def b_tf (p q : Int) : Int := if p = q then 1 else if q = p + 1 ∧ p % 2 = 1 then 2 else 10 + q
def b_text (K V G : Int → Int) (x : Int) : Int := if b_lab K V (V x) 600 = -1 then 0 else b_tf (G x) (G (b_lab K V (V x) 600))
def b_dg (x : Int) : Int := if x < 10 then 1 else if x < 100 then 2 else 3
/-- the width of a text -/
def b_tw (t : Int) : Int := if t = 0 then 2 else if t = 1 then 5 else if t = 2 then 8 else 5 + b_dg (t - 10)
def b_nt (K G : Int → Int) (bp p y : Int) : Int := if K y = 2 ∧ (bp = 0 ∨ G y = p) then 1 else 0
theorem b_nt_b {K G : Int → Int} {bp p y : Int} : 0 ≤ b_nt K G bp p y ∧ b_nt K G bp p y ≤ 1 := by unfold b_nt; split <;> omega
/-- the number of a note -/
def b_num (K G : Int → Int) (bp x : Int) : Int := 1 + p_sum (b_nt K G bp (G x)) x - p_sum (b_nt K G bp (G x)) (x / 200 * 200)
theorem b_sum_le {g : Int → Int} {a b : Int} (hg : ∀ y, 0 ≤ g y ∧ g y ≤ 1) (ha : 0 ≤ a) (hab : a ≤ b) : 0 ≤ p_sum g b - p_sum g a ∧ p_sum g b - p_sum g a ≤ b - a := by
  have h1 := p_sum_mono (g := g) (a := a) (b := b) (fun y _ _ => (hg y).1) ha hab
  refine ⟨by omega, ?_⟩
  have := q_upto (P := fun x => a ≤ x → p_sum g b - p_sum g x ≤ b - x) hab (fun _ => by omega) (fun x h1 h2 h3 _ => ?_) (Int.le_refl _)
  · exact this
  · have := p_sum_s (g := g) (x := x) (by omega)
    have := hg x
    have := h3 (by omega)
    omega
theorem b_num_b {K G : Int → Int} {bp x : Int} (h : 0 ≤ x) : 1 ≤ b_num K G bp x ∧ b_num K G bp x ≤ 200 := by
  have := b_sum_le (g := b_nt K G bp (G x)) (a := x / 200 * 200) (b := x) (fun _ => b_nt_b) (by omega) (by omega)
  unfold b_num
  omega
def b_w0 (K : Int → Int) (bp x : Int) : Int := if K x = 6 then 2 else if K x = 2 then (if bp = 0 then b_dg (b_num K (fun _ => 0) 0 x) else 1) else 0
def b_w1 (K V G : Int → Int) (bp x : Int) : Int := if K x = 6 then b_tw (b_text K V G x) else if K x = 2 then b_dg (b_num K G bp x) else 0
def fr211 (k0 : Nat) (M M' : qM) : Prop := ∀ (k : Nat) (m s : Int), ¬ (k = k0 ∧ m = 0 ∧ 0 ≤ s ∧ s < 600) → M' k m s = M k m s
theorem b_wd_fr {K V : Int → Int} {k0 : Nat} {M M' : qM} (hw : b_wd K V M) (hk : 72 ≤ k0) (f : fr211 k0 M M') : b_wd K V M' := fun x a b => by
  rw [f 67 _ _ (by omega), f 70 _ _ (by omega), f 71 _ _ (by omega)]
  exact hw x a b
