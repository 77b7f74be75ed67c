/-! ===== pairs of simple answers ===== -/
def p_ex (n : Int) (mc : qM → (Int → qM → Prop) → Prop) (a b c : Int) : Nat → qM → Prop := fun e M => (e = 0 ∧ a ≠ 0 ∧ p_no n mc a M) ∨ (e = 1 ∧ b ≠ 0 ∧ p_no n mc b M) ∨ (e = 2 ∧ c ≠ 0 ∧ p_no n mc c M)
theorem p_ans {n : Int} {B : pT} {M : qM} (hn : n < 512) (h : c_rl n B M) {mc : qM → (Int → qM → Prop) → Prop} {v : Int} (hm : ∀ M1, c_fr M M1 → c_rl n B M1 → ∀ F : Int → qM → Prop, (∀ N, c_fr M1 N → N 11 0 0 = 0 → N 138 0 0 = M1 138 0 0 → F v N) → mc M1 F) : p_ok (n + 1) mc v M := fun M' f => by
  have fr : c_fr M M' := by rw [f]; exact c_fr_out
  exact hm M' fr (c_rl_fr fr h) _ (fun N fN e0 e1 => ⟨e0, rfl, by rw [e1, f, qU_s], B, c_rl_up hn (c_rl_fr (c_fr_t fr fN) h)⟩)
theorem p_ans0 {n : Int} {B : pT} {M : qM} (hn : n < 512) (h : c_rl n B M) {mc : qM → (Int → qM → Prop) → Prop} {v : Int} (hm : ∀ M1, c_fr M M1 → c_rl n B M1 → ∀ F : Int → qM → Prop, (∀ N, N = qU M1 11 0 0 0 → F v N) → mc M1 F) : p_ok (n + 1) mc v M :=
  p_ans hn h (fun M1 f1 h1 F H => hm M1 f1 h1 F (fun N fN => H N (by rw [fN]; exact c_fr_11 (Or.inl rfl)) (by rw [fN, qU_s]) (by rw [fN, qU_k (by decide)])))
theorem p_exc {n : Int} {B : pT} {M : qM} (hn : n < 512) (h : c_rl n B M) {mc : qM → (Int → qM → Prop) → Prop} {k : Int} (hm : ∀ F : Int → qM → Prop, (∀ b N, N = qU M 11 0 0 k → F b N) → mc M F) : p_no (n + 1) mc k M :=
  hm _ (fun b N fN => ⟨by rw [fN, qU_s], B, c_rl_up hn (c_rl_fr (by rw [fN]; exact c_fr_11 (Or.inl rfl)) h)⟩)
theorem y_b {n : Int} {B : pT} {M : qM} (h : c_rl n B M) : (∀ c, 0 ≤ c → c < 3 → M 1 c 1 = B 0 c ∧ M 64 0 c = B 0 c ∧ 0 ≤ B 0 c ∧ B 0 c ≤ 10) ∧ (∀ x, 0 ≤ x → x < 30 → M 5 (1 + x) 2 = B 3 x ∧ M 67 0 x = B 3 x ∧ M 65 0 x = B 1 x ∧ 0 ≤ B 3 x ∧ B 3 x ≤ 20) ∧ (M 10 0 13 = 0 ↔ M 11 0 22 = 0) ∧ (∀ c, 0 ≤ c → c < 3 → M 1 c 1 ≤ 10) ∧ (∀ c, 0 ≤ c → c < 3 → 0 ≤ M 64 0 c ∧ M 64 0 c ≤ 10) ∧ ∀ x, 0 ≤ M 67 0 x ∧ M 67 0 x ≤ 20 := by
  obtain ⟨⟨_, b1, b2⟩, ⟨k1, k2, k3⟩, ⟨d1, d2, d3, d4⟩, s1, s2, s3, s4⟩ := h
  have e1 := fun c a b => And.intro (k1.1 c a b) (And.intro (k2.1 c a b) (b1.1 c a b).1)
  refine ⟨fun c a b => ⟨(e1 c a b).1, (e1 c a b).2.1, (e1 c a b).2.2.1, (e1 c a b).2.2.2⟩, fun x a b => ⟨(k1.2.1 x a b).2.2.1, (k2.2.1 x a b).2.2, (k2.2.1 x a b).1, (b1.2.1 x).1, (b1.2.1 x).2⟩, ?_, fun c a b => by have := e1 c a b; omega, fun c a b => by have := e1 c a b; omega, d3.2.1⟩
  rcases s4 with s4 | s4 <;> omega
theorem y_mdx {n : Int} {B : pT} {M : qM} (h : c_rl n B M) (h13 : M 10 0 13 ≠ 0) : ∃ en W R L, c_mdx B en W R L M := by
  rcases h.2.2.2.2.2.2 with z | ⟨_, _, z⟩
  · exact absurd z.1 h13
  · exact z
theorem t222 {d : Nat} {h : qH} (hS : qSe h) {c : Int} {M : qM} {f : Int → qM → Prop} (H1 : 0 ≤ c ∧ c < 3 → ∀ N, N = qU M 11 0 0 0 → f (M 64 0 c) N) (H0 : ¬ (0 ≤ c ∧ c < 3) → ∀ N, N = qU M 11 0 0 1 → f 0 N) : e222 (d + 3) h c M f := by
  refine w222 hS (t155 hS (fun q x hx N hN => ?_) (fun q x hx N hN => ?_))
  · rw [if_neg (by decide)] at hx
    have e : N 11 0 0 = 0 := by rw [hN, qU_s, hx]
    refine ⟨fun _ => q, fun y hy => ?_⟩
    rw [hy, e, if_pos (by decide), hN, qU_k (by decide)]
    exact H1 q _ (by rw [hx])
  · rw [if_pos rfl] at hx
    have e : N 11 0 0 = 1 := by rw [hN, qU_s, hx]
    refine ⟨fun z => by rw [e] at z; exact absurd z (by decide), fun y hy => ?_⟩
    rw [hy, e, if_neg (by decide)]
    exact H0 q _ (by rw [hN, hx])
theorem t223 {d : Nat} {h : qH} (hS : qSe h) {c i : Int} {M : qM} {f : Int → qM → Prop} (hb : ∀ c, 0 ≤ c → c < 3 → 0 ≤ M 64 0 c ∧ M 64 0 c ≤ 10) (H1 : (0 ≤ c ∧ c < 3) ∧ 0 ≤ i ∧ i < M 64 0 c → ∀ N, N = qU M 11 0 0 0 → f (M 67 0 (10 * c + i)) N) (H0 : ¬ ((0 ≤ c ∧ c < 3) ∧ 0 ≤ i ∧ i < M 64 0 c) → ∀ N, N = qU M 11 0 0 1 → f 0 N) : e223 (d + 4) h c i M f := by
  refine w223 hS (t156 hS hb (fun q x hx N hN => ?_) (fun q x hx N hN => ?_))
  · rw [if_neg (by decide)] at hx
    have e : N 11 0 0 = 0 := by rw [hN, qU_s, hx]
    have b := hb c q.1.1 q.1.2
    refine ⟨fun _ => ⟨⟨by omega, by omega⟩, ⟨by omega, by omega⟩, ⟨by omega, by omega⟩⟩, fun y hy => ?_⟩
    rw [hy, e, if_pos (by decide), hN, qU_k (by decide)]
    exact H1 q _ (by rw [hx])
  · rw [if_pos rfl] at hx
    have e : N 11 0 0 = 1 := by rw [hN, qU_s, hx]
    refine ⟨fun z => by rw [e] at z; exact absurd z (by decide), fun y hy => ?_⟩
    rw [hy, e, if_neg (by decide)]
    exact H0 q _ (by rw [hN, hx])
theorem y107 {d d' : Nat} {h : qH} (hS : qSe h) {n c : Int} {B : pT} {M : qM} (hn : n < 512) (hr : c_rl n B M) : e107 (d + 2) h c M (p_ok (n + 1) (e222 (d' + 3) h c)) (p_ex (n + 1) (e222 (d' + 3) h c) 0 0 1) := by
  have b := y_b hr
  refine w107 hS (t133 hS (fun q => ⟨q, ?_⟩) (fun q => Or.inr (Or.inr ⟨rfl, by decide, p_exc hn hr (fun F H => t222 hS (fun q2 => absurd q2 q) (fun _ => H 0))⟩)))
  rw [(b.1 c q.1 q.2).1]
  exact p_ans0 hn hr (fun M1 f1 h1 F H => t222 hS (fun _ => by rw [((y_b h1).1 c q.1 q.2).2.1]; exact H) (fun q2 => absurd q q2))
theorem y108 {d d' : Nat} {h : qH} (hS : qSe h) {n c i : Int} {B : pT} {M : qM} (hn : n < 512) (hr : c_rl n B M) : e108 (d + 3) h c i M (p_ok (n + 1) (e223 (d' + 4) h c i)) (p_ex (n + 1) (e223 (d' + 4) h c i) 0 0 1) := by
  have b := y_b hr
  refine w108 hS (t134 hS b.2.2.2.1 (fun q => ?_) (fun q => Or.inr (Or.inr ⟨rfl, by decide, p_exc hn hr (fun F H => t223 hS b.2.2.2.2.1 (fun q2 => absurd ⟨q2.1, by have := b.1 c q2.1.1 q2.1.2; omega⟩ q) (fun _ => H 0))⟩)))
  have bc := b.1 c q.1.1 q.1.2
  rw [show 1 + 10 * c + i = 1 + (10 * c + i) by omega, (b.2.1 (10 * c + i) (by omega) (by omega)).1]
  exact p_ans0 hn hr (fun M1 f1 h1 F H => t223 hS (y_b h1).2.2.2.2.1 (fun _ => by rw [((y_b h1).2.1 (10 * c + i) (by omega) (by omega)).2.1]; exact H) (fun q2 => absurd ⟨q.1, by have := (y_b h1).1 c q.1.1 q.1.2; omega⟩ q2))
/-- pairs that ask an item, a word, a chapter, and that the book is composed: the class' and the model's asking agree -/
theorem t225 {d : Nat} {h : qH} (hS : qSe h) {c i w : Int} {M : qM} {f : Int → qM → Prop} (hb : ∀ c, 0 ≤ c → c < 3 → 0 ≤ M 64 0 c ∧ M 64 0 c ≤ 10) (hm : ∀ x, 0 ≤ M 67 0 x ∧ M 67 0 x ≤ 20) (hq : qIn (M 69 0 (200 * c + 20 * i + w) + M 76 0 (200 * c + 20 * i + w))) (H1 : ((0 ≤ c ∧ c < 3) ∧ 0 ≤ i ∧ i < M 64 0 c) ∧ 0 ≤ w ∧ w < M 67 0 (10 * c + i) → M 11 0 22 ≠ 0 → ∀ N, N = qU M 11 0 0 0 → f (M 69 0 (200 * c + 20 * i + w) + M 76 0 (200 * c + 20 * i + w)) N) (H2 : ¬ (((0 ≤ c ∧ c < 3) ∧ 0 ≤ i ∧ i < M 64 0 c) ∧ 0 ≤ w ∧ w < M 67 0 (10 * c + i)) → ∀ N, N = qU M 11 0 0 1 → f 0 N) (H3 : ((0 ≤ c ∧ c < 3) ∧ 0 ≤ i ∧ i < M 64 0 c) ∧ 0 ≤ w ∧ w < M 67 0 (10 * c + i) → M 11 0 22 = 0 → ∀ N, N = qU M 11 0 0 2 → f 0 N) : e225 (d + 6) h c i w M f := by
  refine w225 hS (t224 hS hb hm (fun q q2 N hN => ⟨fun z => absurd z (by decide), fun _ => ?_⟩) (fun q N hN => ⟨fun _ => H2 q N hN, fun z => absurd rfl z⟩) (fun q q2 N hN => ⟨fun _ => H3 q q2 N hN, fun z => absurd rfl z⟩))
  have b := hb c q.1.1.1 q.1.1.2
  have m := hm (10 * c + i)
  refine t158 hS ⟨by omega, by omega⟩ ⟨by omega, by omega⟩ ⟨by omega, by omega⟩ ?_
  have e : p_id c i w = 200 * c + 20 * i + w := by unfold p_id; omega
  rw [e]
  have e1 : N 69 0 (200 * c + 20 * i + w) = M 69 0 (200 * c + 20 * i + w) := by rw [hN, qU_k (by decide)]
  have e2 : N 76 0 (200 * c + 20 * i + w) = M 76 0 (200 * c + 20 * i + w) := by rw [hN, qU_k (by decide)]
  exact t175 hS ⟨by omega, by omega⟩ (by rw [e1, e2]; exact hq) (by rw [e1, e2]; exact H1 q q2 N hN)
theorem t228 {d : Nat} {h : qH} (hS : qSe h) {c i : Int} {M : qM} {f : Int → qM → Prop} (hb : ∀ c, 0 ≤ c → c < 3 → 0 ≤ M 64 0 c ∧ M 64 0 c ≤ 10) (H1 : (0 ≤ c ∧ c < 3) ∧ 0 ≤ i ∧ i < M 64 0 c → M 11 0 22 ≠ 0 → ∀ N, N = qU M 11 0 0 0 → f (if M 65 0 (10 * c + i) = 0 then M 81 0 (10 * c + i) else 1) N) (H2 : ¬ ((0 ≤ c ∧ c < 3) ∧ 0 ≤ i ∧ i < M 64 0 c) → ∀ N, N = qU M 11 0 0 1 → f 0 N) (H3 : (0 ≤ c ∧ c < 3) ∧ 0 ≤ i ∧ i < M 64 0 c → M 11 0 22 = 0 → ∀ N, N = qU M 11 0 0 2 → f 0 N) : e228 (d + 5) h c i M f := by
  refine w228 hS (t226 hS hb (fun q q2 N hN => ⟨fun z => absurd z (by decide), fun _ => ?_⟩) (fun q N hN => ⟨fun _ => H2 q N hN, fun z => absurd rfl z⟩) (fun q q2 N hN => ⟨fun _ => H3 q q2 N hN, fun z => absurd rfl z⟩))
  have b := hb c q.1.1 q.1.2
  refine ⟨⟨by omega, by omega⟩, ⟨by omega, by omega⟩, t227 hS ⟨by omega, by omega⟩ ?_⟩
  have e1 : N 65 0 (10 * c + i) = M 65 0 (10 * c + i) := by rw [hN, qU_k (by decide)]
  have e2 : N 81 0 (10 * c + i) = M 81 0 (10 * c + i) := by rw [hN, qU_k (by decide)]
  rw [e1, e2]
  exact H1 q q2 N hN
theorem t230 {d : Nat} {h : qH} (hS : qSe h) {c i : Int} {M : qM} {f : Int → qM → Prop} (hb : ∀ c, 0 ≤ c → c < 3 → 0 ≤ M 64 0 c ∧ M 64 0 c ≤ 10) (H1 : (0 ≤ c ∧ c < 3) ∧ 0 ≤ i ∧ i < M 64 0 c → M 11 0 22 ≠ 0 → ∀ N, N = qU M 11 0 0 0 → f (if M 65 0 (10 * c + i) = 0 then M 83 0 (10 * c + i) else 0) N) (H2 : ¬ ((0 ≤ c ∧ c < 3) ∧ 0 ≤ i ∧ i < M 64 0 c) → ∀ N, N = qU M 11 0 0 1 → f 0 N) (H3 : (0 ≤ c ∧ c < 3) ∧ 0 ≤ i ∧ i < M 64 0 c → M 11 0 22 = 0 → ∀ N, N = qU M 11 0 0 2 → f 0 N) : e230 (d + 5) h c i M f := by
  refine w230 hS (t226 hS hb (fun q q2 N hN => ?_) (fun q N hN => ⟨fun z => absurd rfl z, fun y hy => by rw [if_pos rfl] at hy; rw [hy]; exact H2 q N hN⟩) (fun q q2 N hN => ⟨fun z => absurd rfl z, fun y hy => by rw [if_pos rfl] at hy; rw [hy]; exact H3 q q2 N hN⟩))
  have b := hb c q.1.1 q.1.2
  refine ⟨fun _ => ⟨⟨by omega, by omega⟩, ⟨by omega, by omega⟩, ⟨by omega, by omega⟩, fun _ => ⟨⟨by omega, by omega⟩, ⟨by omega, by omega⟩, ⟨by omega, by omega⟩⟩⟩, fun y hy => ?_⟩
  have e1 : N 65 0 (10 * c + i) = M 65 0 (10 * c + i) := by rw [hN, qU_k (by decide)]
  have e2 : N 83 0 (10 * c + i) = M 83 0 (10 * c + i) := by rw [hN, qU_k (by decide)]
  rw [if_neg (by decide), e1, e2] at hy
  rw [hy]
  exact H1 q q2 N hN
theorem t234 {d : Nat} {h : qH} (hS : qSe h) {M : qM} {f : Int → qM → Prop} (H1 : M 11 0 22 ≠ 0 → ∀ N, N = qU M 11 0 0 0 → f (M 11 0 23) N) (H3 : M 11 0 22 = 0 → ∀ N, N = qU M 11 0 0 1 → f 0 N) : e234 (d + 2) h M f :=
  w234 hS (t233 hS (fun q N hN x hx => by rw [hx, if_neg (by decide), hN, qU_l (by decide)]; exact H1 q _ rfl) (fun q N hN x hx => by rw [hx, if_pos rfl]; exact H3 q N hN))
theorem t235 {d : Nat} {h : qH} (hS : qSe h) {M : qM} {f : Int → qM → Prop} (H1 : M 11 0 22 ≠ 0 → ∀ N, N = qU M 11 0 0 0 → f (M 11 0 58) N) (H3 : M 11 0 22 = 0 → ∀ N, N = qU M 11 0 0 1 → f 0 N) : e235 (d + 2) h M f :=
  w235 hS (t233 hS (fun q N hN x hx => by rw [hx, if_neg (by decide), hN, qU_l (by decide)]; exact H1 q _ rfl) (fun q N hN x hx => by rw [hx, if_pos rfl]; exact H3 q N hN))
theorem t243 {d : Nat} {h : qH} (hS : qSe h) {M : qM} {f : Int → qM → Prop} (H1 : M 11 0 22 ≠ 0 → ∀ N, N = qU M 11 0 0 0 → f (if M 11 0 21 = 0 then 0 else 1) N) (H3 : M 11 0 22 = 0 → ∀ N, N = qU M 11 0 0 1 → f 0 N) : e243 (d + 2) h M f :=
  w243 hS (t233 hS (fun q N hN x hx => by
    have e : N 11 0 21 = M 11 0 21 := by rw [hN, qU_l (by decide)]
    rw [if_neg (by decide), e] at hx
    exact ⟨by rw [hx]; split <;> omega, by rw [hx]; exact H1 q N hN⟩) (fun q N hN x hx => by rw [hx, if_pos rfl]; exact ⟨Or.inl rfl, H3 q N hN⟩))
