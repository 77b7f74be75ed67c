/-! ===== pairs that ask an item or a word ===== -/
def c_it (B : pT) (c i : Int) : Prop := (0 ≤ c ∧ c < 3) ∧ 0 ≤ i ∧ i < B 0 c
def c_wo (B : pT) (c i w : Int) : Prop := c_it B c i ∧ 0 ≤ w ∧ w < B 3 (10 * c + i)
theorem y_it {n c i : Int} {B : pT} {M : qM} (h : c_rl n B M) : ((0 ≤ c ∧ c < 3) ∧ 0 ≤ i ∧ i < M 1 c 1 ↔ c_it B c i) ∧ ((0 ≤ c ∧ c < 3) ∧ 0 ≤ i ∧ i < M 64 0 c ↔ c_it B c i) := by
  unfold c_it
  by_cases q : 0 ≤ c ∧ c < 3
  · have b := (y_b h).1 c q.1 q.2
    rw [b.1, b.2.1]
    exact ⟨Iff.rfl, Iff.rfl⟩
  · exact ⟨⟨fun z => absurd z.1 q, fun z => absurd z.1 q⟩, ⟨fun z => absurd z.1 q, fun z => absurd z.1 q⟩⟩
theorem c_it_x {n c i : Int} {B : pT} {M : qM} (h : c_rl n B M) (q : c_it B c i) : (0 ≤ 10 * c + i ∧ 10 * c + i < 30) ∧ (10 * c + i) % 10 < B 0 ((10 * c + i) / 10) ∧ i < 10 := by
  obtain ⟨q1, q2, q3⟩ := q
  have b := (y_b h).1 c q1.1 q1.2
  rw [show (10 * c + i) / 10 = c by omega, show (10 * c + i) % 10 = i by omega]
  exact ⟨⟨by omega, by omega⟩, q3, by omega⟩
theorem y_wo {n c i w : Int} {B : pT} {M : qM} (h : c_rl n B M) : (((0 ≤ c ∧ c < 3) ∧ 0 ≤ i ∧ i < M 1 c 1) ∧ 0 ≤ w ∧ w < M 5 (1 + 10 * c + i) 2 ↔ c_wo B c i w) ∧ (((0 ≤ c ∧ c < 3) ∧ 0 ≤ i ∧ i < M 64 0 c) ∧ 0 ≤ w ∧ w < M 67 0 (10 * c + i) ↔ c_wo B c i w) := by
  unfold c_wo
  rw [(y_it h).1, (y_it h).2]
  by_cases q : c_it B c i
  · have x := c_it_x h q
    have b := (y_b h).2.1 (10 * c + i) x.1.1 x.1.2
    rw [show 1 + 10 * c + i = 1 + (10 * c + i) by omega, b.1, b.2.1]
    exact ⟨Iff.rfl, Iff.rfl⟩
  · exact ⟨⟨fun z => absurd z.1 q, fun z => absurd z.1 q⟩, ⟨fun z => absurd z.1 q, fun z => absurd z.1 q⟩⟩
theorem c_wo_y {n c i w : Int} {B : pT} {M : qM} (h : c_rl n B M) (q : c_wo B c i w) : (0 ≤ 200 * c + 20 * i + w ∧ 200 * c + 20 * i + w < 600) ∧ c_there B (200 * c + 20 * i + w) ∧ (0 ≤ w ∧ w < 20) ∧ (200 * c + 20 * i + w) / 20 = 10 * c + i ∧ (200 * c + 20 * i + w) % 20 = w := by
  obtain ⟨q1, q2, q3⟩ := q
  have x := c_it_x h q1
  have b := (y_b h).2.1 (10 * c + i) x.1.1 x.1.2
  have e1 : (200 * c + 20 * i + w) / 20 = 10 * c + i := by omega
  have e2 : (200 * c + 20 * i + w) % 20 = w := by omega
  refine ⟨⟨by omega, by omega⟩, ⟨?_, by rw [e1, e2]; exact q3⟩, ⟨q2, by omega⟩, e1, e2⟩
  rw [e1, show (200 * c + 20 * i + w) / 200 = (10 * c + i) / 10 by omega]
  exact x.2.1
def y_ms (n : Int) (B : pT) (M0 : qM) (Q : Prop) (val : qM → Int) (mc : qM → (Int → qM → Prop) → Prop) : Prop := ∀ M1, c_fr M0 M1 → c_rl n B M1 → ∀ F : Int → qM → Prop, (Q → M1 11 0 22 ≠ 0 → ∀ N, c_fr M1 N → N 11 0 0 = 0 → N 138 0 0 = M1 138 0 0 → F (val M1) N) → (¬ Q → ∀ b N, N = qU M1 11 0 0 1 → F b N) → (Q → M1 11 0 22 = 0 → ∀ b N, N = qU M1 11 0 0 2 → F b N) → mc M1 F
theorem c_fr_0' {M N : qM} (h : N = qU M 11 0 0 0) : c_fr M N ∧ N 11 0 0 = 0 ∧ N 138 0 0 = M 138 0 0 := ⟨by rw [h]; exact c_fr_11 (Or.inl rfl), by rw [h, qU_s], by rw [h, qU_k (by decide)]⟩
theorem y_ms_no {n : Int} {B : pT} {Q : Prop} {val : qM → Int} {mc : qM → (Int → qM → Prop) → Prop} {M : qM} (hn : n < 512) (h : c_rl n B M) (hm : y_ms n B M Q val mc) (q : ¬ Q) : p_no (n + 1) mc 1 M :=
  p_exc hn h (fun F H => hm M c_fr_0 h F (fun z => absurd z q) (fun _ => H) (fun z => absurd z q))
theorem y_ms_un {n : Int} {B : pT} {Q : Prop} {val : qM → Int} {mc : qM → (Int → qM → Prop) → Prop} {M : qM} (hn : n < 512) (h : c_rl n B M) (hm : y_ms n B M Q val mc) (q : Q) (m : M 10 0 13 = 0) : p_no (n + 1) mc 2 M :=
  p_exc hn h (fun F H => hm M c_fr_0 h F (fun _ z => absurd ((y_b h).2.2.1.mp m) z) (fun z => absurd q z) (fun _ _ => H))
theorem y_ms_v {n : Int} {B : pT} {Q : Prop} {val : qM → Int} {mc : qM → (Int → qM → Prop) → Prop} {M : qM} {v : Int} (hn : n < 512) (h : c_rl n B M) (hm : y_ms n B M Q val mc) (q : Q) (m : M 10 0 13 ≠ 0) (hv : ∀ M1, c_fr M M1 → c_rl n B M1 → val M1 = v) : p_ok (n + 1) mc v M :=
  p_ans hn h (fun M1 f1 h1 F H => hm M1 f1 h1 F (fun _ _ => by rw [hv M1 f1 h1]; exact H) (fun z => absurd q z) (fun _ z => absurd ((y_b h).2.2.1.mpr (by rw [← f1 11 0 22 (by unfold c_scr; omega)]; exact z)) m))
/-- the class' asking of an item, of a word -/
theorem y_ai {d : Nat} {h : qH} (hS : qSe h) {n c i : Int} {B : pT} {M : qM} {val : qM → Int} {mc : qM → (Int → qM → Prop) → Prop} {f : Int → qM → Prop} (hn : n < 512) (hr : c_rl n B M) (hm : y_ms n B M (c_it B c i) val mc) (H : c_it B c i → M 10 0 13 ≠ 0 → f (1 + (10 * c + i)) M) : e134 (d + 2) h c i M (fun v M' => e138 (d + 1) h M' (fun M'' => f v M'') (p_ex (n + 1) mc 0 2 1)) (p_ex (n + 1) mc 0 2 1) :=
  t134 hS (y_b hr).2.2.2.1 (fun q => t138 hS (fun m => by rw [show 1 + 10 * c + i = 1 + (10 * c + i) by omega]; exact H ((y_it hr).1.mp q) m) (fun m => Or.inr (Or.inl ⟨rfl, by decide, y_ms_un hn hr hm ((y_it hr).1.mp q) m⟩))) (fun q => Or.inr (Or.inr ⟨rfl, by decide, y_ms_no hn hr hm (fun z => q ((y_it hr).1.mpr z))⟩))
theorem y_aw {d : Nat} {h : qH} (hS : qSe h) {n c i w : Int} {B : pT} {M : qM} {val : qM → Int} {mc : qM → (Int → qM → Prop) → Prop} {f : qM → Prop} (hn : n < 512) (hr : c_rl n B M) (hm : y_ms n B M (c_wo B c i w) val mc) (H : c_wo B c i w → M 10 0 13 ≠ 0 → f M) : e135 (d + 3) h c i w M (fun M' => e138 (d + 1) h M' (fun M'' => f M'') (p_ex (n + 1) mc 0 2 1)) (p_ex (n + 1) mc 0 2 1) :=
  t135 hS (y_b hr).2.2.2.1 (fun q => t138 hS (fun m => H ((y_wo hr).1.mp q) m) (fun m => Or.inr (Or.inl ⟨rfl, by decide, y_ms_un hn hr hm ((y_wo hr).1.mp q) m⟩))) (fun q => Or.inr (Or.inr ⟨rfl, by decide, y_ms_no hn hr hm (fun z => q ((y_wo hr).1.mpr z))⟩))
theorem y_ac {d : Nat} {h : qH} (hS : qSe h) {n c : Int} {B : pT} {M : qM} {val : qM → Int} {mc : qM → (Int → qM → Prop) → Prop} {f : qM → Prop} (hn : n < 512) (hr : c_rl n B M) (hm : y_ms n B M (0 ≤ c ∧ c < 3) val mc) (H : (0 ≤ c ∧ c < 3) → M 10 0 13 ≠ 0 → f M) : e133 (d + 1) h c M (fun M' => e138 (d + 1) h M' (fun M'' => f M'') (p_ex (n + 1) mc 0 2 1)) (p_ex (n + 1) mc 0 2 1) :=
  t133 hS (fun q => t138 hS (fun m => H q m) (fun m => Or.inr (Or.inl ⟨rfl, by decide, y_ms_un hn hr hm q m⟩))) (fun q => Or.inr (Or.inr ⟨rfl, by decide, y_ms_no hn hr hm q⟩))
