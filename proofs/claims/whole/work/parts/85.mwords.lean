/-! ===== FacingleafModel: the words, the text of a reference, the number of a note ===== -/
/-- the words of the book in the model's memory: kinds (0: none, or a plain one) and values -/
def b_wd (K V : Int → Int) (M : qM) : Prop := ∀ x, 0 ≤ x → x < 600 → (if x % 20 < M 67 0 (x / 20) then M 70 0 x else 0) = K x ∧ (K x ≠ 0 → M 71 0 x = V x)
/-- the pages of its words -/
def b_pl (K G : Int → Int) (M : qM) : Prop := ∀ x, 0 ≤ x → x < 600 → K x ≠ 0 → (0 ≤ M 93 0 x ∧ M 93 0 x < 70) ∧ M 92 0 (70 * (x / 200) + M 93 0 x) = G x
def b_labN (K V : Int → Int) (l : Int) : Nat → Int
  | 0 => -1
  | j + 1 => if K j = 1 ∧ V j = l then (j : Int) else b_labN K V l j
/-- the last word before x that is the label l; -1 for none -/
def b_lab (K V : Int → Int) (l x : Int) : Int := b_labN K V l x.toNat
theorem b_lab_s {K V : Int → Int} {l x : Int} (h : 0 ≤ x) : b_lab K V l (x + 1) = if K x = 1 ∧ V x = l then x else b_lab K V l x := by
  unfold b_lab
  rw [show (x + 1).toNat = x.toNat + 1 by omega]
  show (if K (x.toNat : Int) = 1 ∧ V (x.toNat : Int) = l then (x.toNat : Int) else b_labN K V l x.toNat) = _
  rw [show (x.toNat : Int) = x by omega]
theorem b_lab_p {K V : Int → Int} {l : Int} : ∀ (n : Nat), b_lab K V l n = -1 ∨ (0 ≤ b_lab K V l n ∧ b_lab K V l n < n ∧ K (b_lab K V l n) = 1 ∧ V (b_lab K V l n) = l) := by
  intro n
  induction n with
  | zero => left; rfl
  | succ n ih =>
    have s := b_lab_s (K := K) (V := V) (l := l) (x := (n : Int)) (by omega)
    rw [show ((n + 1 : Nat) : Int) = (n : Int) + 1 by omega, s]
    by_cases q : K (n : Int) = 1 ∧ V (n : Int) = l
    · rw [if_pos q]; right; exact ⟨by omega, by omega, q.1, q.2⟩
    · rw [if_neg q]
      rcases ih with ih | ih
      · left; exact ih
      · right; exact ⟨ih.1, by omega, ih.2.2.1, ih.2.2.2⟩
/-- what stands for a reference on page p to a label on page q -/
def b_tf (p q : Int) : Int := if p = q then 1 else if q = p + 1 ∧ p % 2 = 1 then 2 else 10 + q
def b_text (K V G : Int → Int) (x : Int) : Int := if b_lab K V (V x) 600 = -1 then 0 else b_tf (G x) (G (b_lab K V (V x) 600))
def b_dg (x : Int) : Int := if x < 10 then 1 else if x < 100 then 2 else 3
/-- the width of a text -/
def b_tw (t : Int) : Int := if t = 0 then 2 else if t = 1 then 5 else if t = 2 then 8 else 5 + b_dg (t - 10)
def b_nt (K G : Int → Int) (bp p y : Int) : Int := if K y = 2 ∧ (bp = 0 ∨ G y = p) then 1 else 0
theorem b_nt_b {K G : Int → Int} {bp p y : Int} : 0 ≤ b_nt K G bp p y ∧ b_nt K G bp p y ≤ 1 := by unfold b_nt; split <;> omega
/-- the number of a note -/
def b_num (K G : Int → Int) (bp x : Int) : Int := 1 + p_sum (b_nt K G bp (G x)) x - p_sum (b_nt K G bp (G x)) (x / 200 * 200)
theorem b_sum_le {g : Int → Int} {a b : Int} (hg : ∀ y, 0 ≤ g y ∧ g y ≤ 1) (ha : 0 ≤ a) (hab : a ≤ b) : 0 ≤ p_sum g b - p_sum g a ∧ p_sum g b - p_sum g a ≤ b - a := by
  have h1 := p_sum_mono (g := g) (a := a) (b := b) (fun y _ _ => (hg y).1) ha hab
  refine ⟨by omega, ?_⟩
  have := q_upto (P := fun x => a ≤ x → p_sum g b - p_sum g x ≤ b - x) hab (fun _ => by omega) (fun x h1 h2 h3 _ => ?_) (Int.le_refl _)
  · exact this
  · have := p_sum_s (g := g) (x := x) (by omega)
    have := hg x
    have := h3 (by omega)
    omega
theorem b_num_b {K G : Int → Int} {bp x : Int} (h : 0 ≤ x) : 1 ≤ b_num K G bp x ∧ b_num K G bp x ≤ 200 := by
  have := b_sum_le (g := b_nt K G bp (G x)) (a := x / 200 * 200) (b := x) (fun _ => b_nt_b) (by omega) (by omega)
  unfold b_num
  omega
def b_w0 (K : Int → Int) (bp x : Int) : Int := if K x = 6 then 2 else if K x = 2 then (if bp = 0 then b_dg (b_num K (fun _ => 0) 0 x) else 1) else 0
def b_w1 (K V G : Int → Int) (bp x : Int) : Int := if K x = 6 then b_tw (b_text K V G x) else if K x = 2 then b_dg (b_num K G bp x) else 0
theorem t205 {d : Nat} {h : qH} (hS : qSe h) {x : Int} {M : qM} {F : Int → qM → Prop} (hx : 0 ≤ x ∧ x < 600) (H : F (if x % 20 < M 67 0 (x / 20) then 1 else 0) M) : e205 (d + 1) h x M F := by
  refine w205 hS ⟨hx.1, hx.1, ⟨by omega, by omega⟩, fun y hy => ?_⟩
  rw [hy]
  refine ⟨?_, H⟩
  split
  · right; rfl
  · left; rfl
theorem t206 {d : Nat} {h : qH} (hS : qSe h) {x : Int} {M : qM} {F : Int → qM → Prop} (hx : 0 ≤ x ∧ x < 600) (hr : 0 ≤ M 93 0 x ∧ M 93 0 x < 70) (H : F (M 92 0 (70 * (x / 200) + M 93 0 x)) M) : e206 (d + 1) h x M F :=
  w206 hS ⟨hx.1, ⟨by omega, by omega⟩, hx, ⟨by omega, by omega⟩, ⟨by omega, by omega⟩, H⟩
theorem t207 {d : Nat} {h : qH} (hS : qSe h) {K V : Int → Int} {l : Int} {M : qM} {F : Int → qM → Prop} (hw : b_wd K V M) (H : F (b_lab K V l 600) M) : e207 (d + 2) h l M F := by
  refine w207 hS ?_
  refine q_upto (P := fun x => 0 ≤ x → b207_4 d h F l (b_lab K V l x) x M) (a := 0) (b := 600) (by omega) (fun _ => w207_4 hS ⟨fun q => by omega, fun _ => H⟩) (fun x x0 x1 ih _ => ?_) (by omega)
  have kx := hw x x0 x1
  refine w207_4 hS ⟨fun _ => t205 hS ⟨x0, x1⟩ ⟨fun _ => ⟨⟨by omega, by omega⟩, fun _ => ⟨by omega, by omega⟩⟩, fun y hy => ⟨⟨by omega, by omega⟩, ?_⟩⟩, fun q => by omega⟩
  have e : y = b_lab K V l (x + 1) := by
    rw [hy, b_lab_s x0]
    by_cases q : x % 20 < M 67 0 (x / 20)
    · rw [if_pos q, if_neg (by decide)]
      rw [if_pos q] at kx
      by_cases q1 : M 70 0 x = 1
      · rw [if_pos q1, kx.2 (by omega)]
        have : K x = 1 := by omega
        by_cases q2 : V x = l
        · rw [if_pos q2, if_pos ⟨this, q2⟩]
        · rw [if_neg q2, if_neg (fun z => q2 z.2)]
      · rw [if_neg q1, if_neg (by omega)]
    · rw [if_neg q, if_pos rfl]
      rw [if_neg q] at kx
      rw [if_neg (by omega)]
  rw [e]
  exact ih (by omega)
theorem t208 {d : Nat} {h : qH} (hS : qSe h) {K V G : Int → Int} {x : Int} {M : qM} {F : Int → qM → Prop} (hw : b_wd K V M) (hp : b_pl K G M) (hx : 0 ≤ x ∧ x < 600) (hK : K x ≠ 0) (hG : ∀ y, 0 ≤ y → y < 600 → K y ≠ 0 → 0 ≤ G y ∧ G y ≤ 1000) (H : F (b_text K V G x) M) : e208 (d + 3) h x M F := by
  have kx := hw x hx.1 hx.2
  refine w208 hS ⟨hx, ?_⟩
  rw [kx.2 hK]
  refine t207 hS hw ?_
  have lp := b_lab_p (K := K) (V := V) (l := V x) 600
  rw [show ((600 : Nat) : Int) = 600 from rfl] at lp
  unfold b_text at H
  refine ⟨fun q => ?_, fun q => ?_⟩
  · rw [if_pos q] at H; exact H
  · rw [if_neg q] at H
    rcases lp with lp | lp
    · exact absurd lp q
    · generalize b_lab K V (V x) 600 = y at *
      have p1 := hp x hx.1 hx.2 hK
      have p2 := hp y lp.1 lp.2.1 (by omega)
      have g1 := hG x hx.1 hx.2 hK
      have g2 := hG y lp.1 lp.2.1 (by omega)
      refine t206 hS hx p1.1 (t206 hS ⟨lp.1, lp.2.1⟩ p2.1 ?_)
      rw [p1.2, p2.2]
      refine ⟨fun _ => ⟨⟨by omega, by omega⟩, fun _ => ⟨by omega, fun _ => ⟨by omega, by omega⟩⟩, fun _ => ⟨by omega, by omega⟩⟩, fun t ht => ?_⟩
      have : t = b_tf (G x) (G y) := by
        rw [ht]; unfold b_tf
        by_cases q1 : G x = G y
        · rw [if_pos q1, if_pos q1]
        · rw [if_neg q1, if_neg q1]
          by_cases q2 : G y = G x + 1
          · rw [if_pos q2]
            by_cases q3 : G x % 2 = 1
            · rw [if_pos q3, if_pos ⟨q2, q3⟩]
            · rw [if_neg q3, if_neg (fun z => q3 z.2)]
          · rw [if_neg q2, if_neg (fun z => q2 z.1)]
      rw [this]
      exact H
theorem t209 {d : Nat} {h : qH} (hS : qSe h) {t : Int} {M : qM} {F : Int → qM → Prop} (ht : -1000 ≤ t ∧ t ≤ 100000) (H : F (b_tw t) M) : e209 (d + 2) h t M F := by
  unfold b_tw at H
  refine w209 hS ⟨fun q => ?_, fun q => ⟨fun q1 => ?_, fun q1 => ⟨fun q2 => ?_, fun q2 => ⟨⟨by omega, by omega⟩, w154 hS (fun y hy => ?_)⟩⟩⟩⟩
  · rw [if_pos q] at H; exact H
  · rw [if_neg q, if_pos q1] at H; exact H
  · rw [if_neg q, if_neg q1, if_pos q2] at H; exact H
  · rw [if_neg q, if_neg q1, if_neg q2] at H
    have e : y = b_dg (t - 10) := hy
    rw [e]
    refine ⟨?_, H⟩
    unfold b_dg
    split
    · exact ⟨by omega, by omega⟩
    · split
      · exact ⟨by omega, by omega⟩
      · exact ⟨by omega, by omega⟩
theorem t210 {d : Nat} {h : qH} (hS : qSe h) {K V G : Int → Int} {x bp : Int} {M : qM} {F : Int → qM → Prop} (hw : b_wd K V M) (hp : bp ≠ 0 → b_pl K G M) (hx : 0 ≤ x ∧ x < 600) (hK : K x ≠ 0) (H : F (b_num K G bp x) M) : e210 (d + 2) h x bp M F := by
  refine w210 hS ⟨hx.1, ⟨by omega, by omega⟩, ?_⟩
  have e0 : (1 : Int) = 1 + p_sum (b_nt K G bp (G x)) (x / 200 * 200) - p_sum (b_nt K G bp (G x)) (x / 200 * 200) := by omega
  have st : ∀ u, b210_13 d h F x bp (1 + p_sum (b_nt K G bp (G x)) (x / 200 * 200) - p_sum (b_nt K G bp (G x)) (x / 200 * 200)) (x / 200 * 200) u M := by
    refine q_upto (P := fun y => x / 200 * 200 ≤ y → ∀ u, b210_13 d h F x bp (1 + p_sum (b_nt K G bp (G x)) y - p_sum (b_nt K G bp (G x)) (x / 200 * 200)) y u M) (a := x / 200 * 200) (b := x) (by omega) (fun _ u => w210_13 hS ⟨fun q => by omega, fun _ => H⟩) (fun y y0 y1 ih _ u => ?_) (by omega)
    have y2 : 0 ≤ y := by omega
    have ky := hw y y2 (by omega)
    have ih' := ih (by omega)
    have s := p_sum_s (g := b_nt K G bp (G x)) y2
    have bb := b_sum_le (g := b_nt K G bp (G x)) (a := x / 200 * 200) (b := y) (fun _ => b_nt_b) (by omega) (by omega)
    have nb := b_nt_b (K := K) (G := G) (bp := bp) (p := G x) (y := y)
    have eS : ∀ v, v = b_nt K G bp (G x) y → ∀ u, b210_13 d h F x bp ((1 + p_sum (b_nt K G bp (G x)) y - p_sum (b_nt K G bp (G x)) (x / 200 * 200)) + v) (y + 1) u M := fun v hv u => by
      have e : (1 + p_sum (b_nt K G bp (G x)) y - p_sum (b_nt K G bp (G x)) (x / 200 * 200)) + v = 1 + p_sum (b_nt K G bp (G x)) (y + 1) - p_sum (b_nt K G bp (G x)) (x / 200 * 200) := by omega
      rw [e]; exact ih' u
    refine w210_13 hS ⟨fun _ => t205 hS ⟨y2, by omega⟩ ⟨fun _ => ⟨by omega, by omega⟩, fun z hz => ?_⟩, fun q => by omega⟩
    have ez : z = if K y = 2 then 1 else 0 := by
      rw [hz]
      by_cases q : y % 20 < M 67 0 (y / 20)
      · rw [if_pos q, if_neg (by decide)]
        rw [if_pos q] at ky
        rw [ky.1]
      · rw [if_neg q, if_pos rfl]
        rw [if_neg q] at ky
        rw [if_neg (by omega)]
    by_cases k2 : K y = 2
    · rw [if_pos k2] at ez
      refine ⟨fun q => by omega, fun _ => ⟨fun q => ⟨⟨by omega, by omega⟩, ⟨by omega, by omega⟩, eS 1 (by unfold b_nt; rw [if_pos ⟨k2, Or.inl q⟩]) _⟩, fun q => ?_⟩⟩
      have p1 := hp q y y2 (by omega) (by omega)
      have p2 := hp q x hx.1 hx.2 hK
      refine t206 hS ⟨y2, by omega⟩ p1.1 (t206 hS hx p2.1 ?_)
      rw [p1.2, p2.2]
      intro t ht
      have et : t = b_nt K G bp (G x) y := by
        rw [ht]; unfold b_nt
        by_cases q3 : G y = G x
        · rw [if_pos q3, if_pos ⟨k2, Or.inr q3⟩]
        · rw [if_neg q3, if_neg (fun z => z.2.elim q q3)]
      exact ⟨⟨by omega, by omega⟩, ⟨by omega, by omega⟩, eS t et _⟩
    · rw [if_neg k2] at ez
      have n0 : (0 : Int) = b_nt K G bp (G x) y := by unfold b_nt; rw [if_neg (fun z => k2 z.1)]
      exact ⟨fun _ => ⟨⟨by omega, by omega⟩, ⟨by omega, by omega⟩, eS 0 n0 _⟩, fun q => absurd ez q⟩
  rw [← e0] at st
  exact st _
def fr211 (k0 : Nat) (M M' : qM) : Prop := ∀ (k : Nat) (m s : Int), ¬ (k = k0 ∧ m = 0 ∧ 0 ≤ s ∧ s < 600) → M' k m s = M k m s
theorem b_wd_fr {K V : Int → Int} {k0 : Nat} {M M' : qM} (hw : b_wd K V M) (hk : 72 ≤ k0) (f : fr211 k0 M M') : b_wd K V M' := fun x a b => by
  rw [f 67 _ _ (by omega), f 70 _ _ (by omega), f 71 _ _ (by omega)]
  exact hw x a b
theorem t211 {d : Nat} {h : qH} (hS : qSe h) {K V : Int → Int} {M : qM} {F : qM → Prop} (hw : b_wd K V M) (H : ∀ M', fr211 76 M M' → (∀ x, 0 ≤ x → x < 600 → M' 76 0 x = b_w0 K (M 11 0 3) x) → F M') : e211 (d + 3) h M F := by
  refine w211 hS ?_
  refine q_upto (P := fun x => 0 ≤ x → ∀ M1, fr211 76 M M1 → (∀ y, 0 ≤ y → y < x → M1 76 0 y = b_w0 K (M 11 0 3) y) → b211_2 d h F x M1) (a := 0) (b := 600) (by omega) (fun _ M1 O1 v1 => w211_2 hS ⟨fun q => by omega, fun _ => H M1 O1 v1⟩) (fun x x0 x1 ih _ M1 O1 v1 => ?_) (by omega) M (fun _ _ _ _ => rfl) (fun y a b => by omega)
  refine w211_2 hS ⟨fun _ => ⟨⟨x0, x1⟩, fun M2 f2 => ?_⟩, fun q => by omega⟩
  have O2 : fr211 76 M M2 := fun k m s q => by rw [f2]; unfold qU; rw [if_neg (by omega)]; exact O1 k m s q
  have hw2 := b_wd_fr hw (by omega) O2
  have k2 := hw2 x x0 x1
  have v2 : ∀ y, 0 ≤ y → y < x → M2 76 0 y = b_w0 K (M 11 0 3) y := fun y a b => by rw [f2, qU_l (by omega)]; exact v1 y a b
  have s2 : M2 76 0 x = 0 := by rw [f2, qU_s]
  have go : ∀ w M3, M3 = qU M2 76 0 x w → w = b_w0 K (M 11 0 3) x → b211_2 d h F (x + 1) M3 := fun w M3 f3 hw' => by
    refine ih (by omega) M3 (fun k m s q => by rw [f3]; unfold qU; rw [if_neg (by omega)]; exact O2 k m s q) (fun y a b => ?_)
    by_cases q : y = x
    · rw [q, f3, qU_s]; exact hw'
    · rw [f3, qU_l (by omega)]; exact v2 y a (by omega)
  refine t205 hS ⟨x0, x1⟩ ⟨fun q => ⟨⟨by omega, by omega⟩, ?_⟩, fun q => ⟨⟨x0, x1⟩, ?_⟩⟩
  · have nq : ¬ x % 20 < M2 67 0 (x / 20) := fun z => by rw [if_pos z] at q; exact absurd q (by decide)
    rw [if_neg nq] at k2
    refine ih (by omega) M2 O2 (fun y a b => ?_)
    by_cases q : y = x
    · rw [q, s2]; unfold b_w0; rw [if_neg (by omega), if_neg (by omega)]
    · exact v2 y a (by omega)
  · have pq : x % 20 < M2 67 0 (x / 20) := by
      by_cases z : x % 20 < M2 67 0 (x / 20)
      · exact z
      · rw [if_neg z] at q; exact absurd rfl q
    rw [if_pos pq] at k2
    have e3 : M2 11 0 3 = M 11 0 3 := O2 _ _ _ (by omega)
    refine ⟨fun q6 => ⟨⟨x0, x1⟩, fun M3 f3 => ⟨⟨by omega, by omega⟩, go 2 M3 f3 (by unfold b_w0; rw [if_pos (by omega)])⟩⟩, fun q6 => ⟨⟨x0, x1⟩, fun q2 => ⟨fun q3 => ?_, fun q3 => ⟨⟨x0, x1⟩, fun M3 f3 => ⟨⟨by omega, by omega⟩, go 1 M3 f3 (by unfold b_w0; rw [if_neg (by omega), if_pos (by omega), if_neg (by omega)])⟩⟩⟩, fun q2 => ⟨⟨x0, x1⟩, fun M3 f3 => ⟨⟨by omega, by omega⟩, go 0 M3 f3 (by unfold b_w0; rw [if_neg (by omega), if_neg (by omega)])⟩⟩⟩⟩
    refine t210 hS (G := fun _ => 0) hw2 (fun q => absurd rfl q) ⟨x0, x1⟩ (by omega) (w154 hS (fun y hy => ⟨⟨x0, x1⟩, fun M3 f3 => ⟨⟨by omega, by omega⟩, go y M3 f3 ?_⟩⟩))
    have ey : y = b_dg (b_num K (fun _ => 0) 0 x) := hy
    rw [ey]; unfold b_w0; rw [if_neg (by omega), if_pos (by omega), if_pos (by omega)]
theorem t212 {d : Nat} {h : qH} (hS : qSe h) {K V G : Int → Int} {M : qM} {F : qM → Prop} (hw : b_wd K V M) (hp : b_pl K G M) (hG : ∀ y, 0 ≤ y → y < 600 → K y ≠ 0 → 0 ≤ G y ∧ G y ≤ 1000) (H : ∀ M', fr211 77 M M' → (∀ x, 0 ≤ x → x < 600 → M' 77 0 x = b_w1 K V G (M 11 0 3) x) → F M') : e212 (d + 4) h M F := by
  refine w212 hS ?_
  refine q_upto (P := fun x => 0 ≤ x → ∀ M1, fr211 77 M M1 → (∀ y, 0 ≤ y → y < x → M1 77 0 y = b_w1 K V G (M 11 0 3) y) → b212_2 d h F x M1) (a := 0) (b := 600) (by omega) (fun _ M1 O1 v1 => w212_2 hS ⟨fun q => by omega, fun _ => H M1 O1 v1⟩) (fun x x0 x1 ih _ M1 O1 v1 => ?_) (by omega) M (fun _ _ _ _ => rfl) (fun y a b => by omega)
  refine w212_2 hS ⟨fun _ => ⟨⟨x0, x1⟩, fun M2 f2 => ?_⟩, fun q => by omega⟩
  have O2 : fr211 77 M M2 := fun k m s q => by rw [f2]; unfold qU; rw [if_neg (by omega)]; exact O1 k m s q
  have hw2 := b_wd_fr hw (by omega) O2
  have hp2 : b_pl K G M2 := fun y a b c => by rw [O2 93 _ _ (by omega), O2 92 _ _ (by omega)]; exact hp y a b c
  have k2 := hw2 x x0 x1
  have v2 : ∀ y, 0 ≤ y → y < x → M2 77 0 y = b_w1 K V G (M 11 0 3) y := fun y a b => by rw [f2, qU_l (by omega)]; exact v1 y a b
  have s2 : M2 77 0 x = 0 := by rw [f2, qU_s]
  have go : ∀ w M3, M3 = qU M2 77 0 x w → w = b_w1 K V G (M 11 0 3) x → b212_2 d h F (x + 1) M3 := fun w M3 f3 hw' => by
    refine ih (by omega) M3 (fun k m s q => by rw [f3]; unfold qU; rw [if_neg (by omega)]; exact O2 k m s q) (fun y a b => ?_)
    by_cases q : y = x
    · rw [q, f3, qU_s]; exact hw'
    · rw [f3, qU_l (by omega)]; exact v2 y a (by omega)
  refine t205 hS ⟨x0, x1⟩ ⟨fun q => ⟨⟨by omega, by omega⟩, ?_⟩, fun q => ⟨⟨x0, x1⟩, ?_⟩⟩
  · have nq : ¬ x % 20 < M2 67 0 (x / 20) := fun z => by rw [if_pos z] at q; exact absurd q (by decide)
    rw [if_neg nq] at k2
    refine ih (by omega) M2 O2 (fun y a b => ?_)
    by_cases q : y = x
    · rw [q, s2]; unfold b_w1; rw [if_neg (by omega), if_neg (by omega)]
    · exact v2 y a (by omega)
  · have pq : x % 20 < M2 67 0 (x / 20) := by
      by_cases z : x % 20 < M2 67 0 (x / 20)
      · exact z
      · rw [if_neg z] at q; exact absurd rfl q
    rw [if_pos pq] at k2
    have e3 : M2 11 0 3 = M 11 0 3 := O2 _ _ _ (by omega)
    refine ⟨fun q6 => ?_, fun q6 => ⟨⟨x0, x1⟩, fun q2 => ?_, fun q2 => ⟨⟨x0, x1⟩, fun M3 f3 => ⟨⟨by omega, by omega⟩, go 0 M3 f3 (by unfold b_w1; rw [if_neg (by omega), if_neg (by omega)])⟩⟩⟩⟩
    · have tb : 0 ≤ b_text K V G x ∧ b_text K V G x ≤ 1010 := by
        have lp := b_lab_p (K := K) (V := V) (l := V x) 600
        rw [show ((600 : Nat) : Int) = 600 from rfl] at lp
        unfold b_text
        split
        · omega
        · rcases lp with lp | lp
          · omega
          · have := hG _ lp.1 lp.2.1 (by omega)
            unfold b_tf
            split
            · omega
            · split <;> omega
      refine t208 hS hw2 hp2 ⟨x0, x1⟩ (by omega) hG (t209 hS ⟨by omega, by omega⟩ ⟨⟨x0, x1⟩, fun M3 f3 => ⟨⟨by omega, by omega⟩, go _ M3 f3 ?_⟩⟩)
      unfold b_w1; rw [if_pos (by omega)]
    · rw [e3]
      refine t210 hS (G := G) hw2 (fun _ => hp2) ⟨x0, x1⟩ (by omega) (w154 hS (fun y hy => ⟨⟨x0, x1⟩, fun M3 f3 => ⟨⟨by omega, by omega⟩, go y M3 f3 ?_⟩⟩))
      have ey : y = b_dg (b_num K G (M 11 0 3) x) := hy
      rw [ey]; unfold b_w1; rw [if_neg (by omega), if_pos (by omega)]
