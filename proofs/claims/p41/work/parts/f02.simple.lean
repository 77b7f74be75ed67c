/-! ===== pairs of simple answers ===== -/
def p_ex (n : Int) (mc : qM → (Int → qM → Prop) → Prop) (a b c : Int) : Nat → qM → Prop := fun e M => (e = 0 ∧ a ≠ 0 ∧ p_no n mc a M) ∨ (e = 1 ∧ b ≠ 0 ∧ p_no n mc b M) ∨ (e = 2 ∧ c ≠ 0 ∧ p_no n mc c M)
theorem p_ans {n : Int} {B : pT} {M : qM} (hn : n < 512) (h : c_rl n B M) {mc : qM → (Int → qM → Prop) → Prop} {v : Int} (hm : ∀ M1, c_fr M M1 → c_rl n B M1 → ∀ F : Int → qM → Prop, (∀ N, c_fr M1 N → N 11 0 0 = 0 → N 138 0 0 = M1 138 0 0 → F v N) → mc M1 F) : p_ok (n + 1) mc v M := fun M' f => by
  have fr : c_fr M M' := by rw [f]; exact c_fr_out
  exact hm M' fr (c_rl_fr fr h) _ (fun N fN e0 e1 => ⟨e0, rfl, by rw [e1, f, qU_s], B, c_rl_up hn (c_rl_fr (c_fr_t fr fN) h)⟩)
theorem p_ans0 {n : Int} {B : pT} {M : qM} (hn : n < 512) (h : c_rl n B M) {mc : qM → (Int → qM → Prop) → Prop} {v : Int} (hm : ∀ M1, c_fr M M1 → c_rl n B M1 → ∀ F : Int → qM → Prop, (∀ N, N = qU M1 11 0 0 0 → F v N) → mc M1 F) : p_ok (n + 1) mc v M :=
  p_ans hn h (fun M1 f1 h1 F H => hm M1 f1 h1 F (fun N fN => H N (by rw [fN]; exact c_fr_11 (Or.inl rfl)) (by rw [fN, qU_s]) (by rw [fN, qU_k (by decide)])))
theorem p_exc {n : Int} {B : pT} {M : qM} (hn : n < 512) (h : c_rl n B M) {mc : qM → (Int → qM → Prop) → Prop} {k : Int} (hm : ∀ F : Int → qM → Prop, (∀ b N, N = qU M 11 0 0 k → F b N) → mc M F) : p_no (n + 1) mc k M :=
  hm _ (fun b N fN => ⟨by rw [fN, qU_s], B, c_rl_up hn (c_rl_fr (by rw [fN]; exact c_fr_11 (Or.inl rfl)) h)⟩)
theorem y_b {n : Int} {B : pT} {M : qM} (h : c_rl n B M) : (∀ c, 0 ≤ c → c < 3 → M 1 c 1 = B 0 c ∧ M 64 0 c = B 0 c ∧ 0 ≤ B 0 c ∧ B 0 c ≤ 10) ∧ (∀ x, 0 ≤ x → x < 30 → M 5 (1 + x) 2 = B 3 x ∧ M 67 0 x = B 3 x ∧ M 65 0 x = B 1 x ∧ 0 ≤ B 3 x ∧ B 3 x ≤ 20) ∧ (M 10 0 13 = 0 ↔ M 11 0 22 = 0) ∧ (∀ c, 0 ≤ c → c < 3 → M 1 c 1 ≤ 10) ∧ (∀ c, 0 ≤ c → c < 3 → 0 ≤ M 64 0 c ∧ M 64 0 c ≤ 10) ∧ ∀ x, 0 ≤ M 67 0 x ∧ M 67 0 x ≤ 20 := by
  obtain ⟨⟨_, b1, b2⟩, ⟨k1, k2, k3⟩, ⟨d1, d2, d3, d4⟩, s1, s2, s3, s4⟩ := h
  have e1 := fun c a b => And.intro (k1.1 c a b) (And.intro (k2.1 c a b) (b1.1 c a b).1)
  refine ⟨fun c a b => ⟨(e1 c a b).1, (e1 c a b).2.1, (e1 c a b).2.2.1, (e1 c a b).2.2.2⟩, fun x a b => ⟨(k1.2.1 x a b).2.2.1, (k2.2.1 x a b).2.2, (k2.2.1 x a b).1, (b1.2.1 x).1, (b1.2.1 x).2⟩, ?_, fun c a b => by have := e1 c a b; omega, fun c a b => by have := e1 c a b; omega, d3.2.1⟩
  rcases s4 with s4 | s4 <;> omega
theorem y_mdx {n : Int} {B : pT} {M : qM} (h : c_rl n B M) (h13 : M 10 0 13 ≠ 0) : ∃ en W R L, c_mdx B en W R L M := by
  rcases h.2.2.2.2.2.2 with z | ⟨_, _, z⟩
  · exact absurd z.1 h13
  · exact z
