/-! ===== replace ===== -/
theorem t173 {d : Nat} {h : qH} (hS : qSe h) {c i n : Int} {B : pT} {M : qM} {f : Int → qM → Prop} (hB : c_ok B) (hB2 : c_ok2 B) (hM : m_bk B M) (hn : M 11 0 12 = n) (hn2 : 0 ≤ n ∧ n ≤ 20) (hv : ∀ w, 0 ≤ w → w < n → 0 ≤ M 74 0 w ∧ M 74 0 w ≤ 9) (h68 : ∀ x, 0 ≤ x → x < 30 → 0 ≤ M 68 0 x ∧ M 68 0 x ≤ 1000) (H0 : ¬ ((0 ≤ c ∧ c < 3) ∧ 0 ≤ i ∧ i < B 0 c) → ∀ N, N = qU M 11 0 0 1 → f 0 N) (H2 : ((0 ≤ c ∧ c < 3) ∧ 0 ≤ i ∧ i < B 0 c) → ¬ (B 1 (10 * c + i) = 0 ∧ y_fit B c i (M 73 0) (M 74 0) n) → ∀ N, N = qU M 11 0 0 2 → f 0 N)
    (H1 : ((0 ≤ c ∧ c < 3) ∧ 0 ≤ i ∧ i < B 0 c) → B 1 (10 * c + i) = 0 → y_fit B c i (M 73 0) (M 74 0) n → ∀ N, (∀ (k : Nat) (m s : Int), ¬ (69 ≤ k ∧ k ≤ 71 ∧ m = 0 ∧ 20 * (10 * c + i) ≤ s ∧ s < 20 * (10 * c + i) + n) → ¬ ((k = 67 ∨ k = 68 ∨ k = 79) ∧ m = 0 ∧ s = 10 * c + i) → ¬ (k = 11 ∧ m = 0 ∧ (s = 0 ∨ s = 12 ∨ s = 22)) → N k m s = M k m s) → (∀ w, 0 ≤ w → w < n → N 69 0 (20 * (10 * c + i) + w) = M 72 0 w ∧ N 70 0 (20 * (10 * c + i) + w) = M 73 0 w ∧ N 71 0 (20 * (10 * c + i) + w) = M 74 0 w) → N 67 0 (10 * c + i) = n → N 79 0 (10 * c + i) = 0 → N 68 0 (10 * c + i) = M 68 0 (10 * c + i) + 1 → N 11 0 12 = 0 → N 11 0 22 = 0 → N 11 0 0 = 0 → f (B 3 (10 * c + i)) N) : e173 (d + 4) h c i M f := by
  have hb : ∀ c, 0 ≤ c → c < 3 → 0 ≤ M 64 0 c ∧ M 64 0 c ≤ 10 := fun c a b => by rw [hM.1 c a b]; exact (hB.1 c a b).1
  have ef : ∀ c, 0 ≤ c → c < 3 → M 64 0 c = B 0 c := hM.1
  have qq : ((0 ≤ c ∧ c < 3) ∧ 0 ≤ i ∧ i < M 64 0 c) ↔ ((0 ≤ c ∧ c < 3) ∧ 0 ≤ i ∧ i < B 0 c) := ⟨fun z => ⟨z.1, z.2.1, by rw [← ef c z.1.1 z.1.2]; exact z.2.2⟩, fun z => ⟨z.1, z.2.1, by rw [ef c z.1.1 z.1.2]; exact z.2.2⟩⟩
  refine w173 hS (t156 hS hb (fun qi => ⟨fun z => absurd z (by decide), fun _ => ?_⟩) (fun qi => ⟨fun _ N hN => ⟨fun z => by rw [hN, qU_s] at z; omega, fun _ => H0 (fun z => qi (qq.mpr z)) N hN⟩, fun z => absurd rfl z⟩))
  have qi := qq.mp qi
  have qc := qi.1
  have n10 := (hB.1 c qc.1 qc.2).1
  have mkx := hM.2.1 (10 * c + i) (by omega) (by omega)
  rw [mkx.1]
  refine ⟨⟨by omega, by omega⟩, ⟨by omega, by omega⟩, ⟨by omega, by omega⟩, fun qh => t169 hS hB hB2 hM qc ⟨by omega, by omega⟩ hn hn2 hv (fun fit x hx M1 f1 => ?_) (fun fit x hx M1 f1 => ?_), fun qh N hN => ⟨fun z => by rw [hN, qU_s] at z; omega, fun _ => H2 qi (fun k => qh k.1) N hN⟩⟩
  · rw [if_neg (by decide)] at hx
    have o1 : ∀ (k : Nat) (m s : Int), ¬ (k = 11 ∧ m = 0 ∧ s = 0) → M1 k m s = M k m s := fun k m s q => by rw [f1]; unfold qU; rw [if_neg q]
    have v0 : M1 11 0 0 = 0 := by rw [f1, qU_s, hx]
    have e67 : M1 67 0 (10 * c + i) = B 3 (10 * c + i) := by rw [o1 _ _ _ (by omega)]; exact mkx.2.2
    rw [e67]
    have b68 := h68 (10 * c + i) (by omega) (by omega)
    refine ⟨fun _ => ⟨⟨by omega, by omega⟩, ⟨by omega, by omega⟩, ⟨by omega, by omega⟩, ⟨by omega, by omega⟩, ⟨by omega, by omega⟩, t170 hS (n := n) ⟨by omega, by omega⟩ (by rw [o1 _ _ _ (by omega)]; exact hn) hn2 (fun M2 O2 w2 a67 a79 a12 a22 => ⟨⟨by omega, by omega⟩, ⟨by omega, by omega⟩, ⟨by omega, by omega⟩, ?_⟩)⟩, fun z => by omega⟩
    have e68 : M2 68 0 (10 * c + i) = M 68 0 (10 * c + i) := by rw [O2 _ _ _ (by omega) (by omega) (by omega), o1 _ _ _ (by omega)]
    rw [e68]
    refine ⟨⟨by omega, by omega⟩, ⟨by omega, by omega⟩, fun M3 f3 => ?_⟩
    have O3 : ∀ (k : Nat) (m s : Int), ¬ (k = 68 ∧ m = 0 ∧ s = 10 * c + i) → M3 k m s = M2 k m s := fun k m s q => by rw [f3]; unfold qU; rw [if_neg q]
    refine H1 qi qh fit M3 (fun k m s q1 q2 q3 => ?_) (fun w w0 w1 => ?_) ?_ ?_ (by rw [f3, qU_s]) ?_ ?_ ?_
    · rw [O3 k m s (by omega), O2 k m s q1 (by omega) (by omega), o1 k m s (by omega)]
    · have g := w2 w w0 w1
      rw [O3 _ _ _ (by omega), O3 _ _ _ (by omega), O3 _ _ _ (by omega), g.1, g.2.1, g.2.2, o1 _ _ _ (by omega), o1 _ _ _ (by omega), o1 _ _ _ (by omega)]
      exact ⟨rfl, rfl, rfl⟩
    · rw [O3 _ _ _ (by omega)]; exact a67
    · rw [O3 _ _ _ (by omega)]; exact a79
    · rw [O3 _ _ _ (by omega)]; exact a12
    · rw [O3 _ _ _ (by omega)]; exact a22
    · rw [O3 _ _ _ (by omega), O2 _ _ _ (by omega) (by omega) (by omega)]; exact v0
  · rw [if_pos rfl] at hx
    have v0 : M1 11 0 0 = 2 := by rw [f1, qU_s, hx]
    exact ⟨fun z => by omega, fun _ => H2 qi (fun k => fit k.2) M1 (by rw [f1, hx])⟩
set_option maxHeartbeats 4000000 in
theorem y102 {d d' : Nat} {h : qH} (hS : qSe h) {n c i : Int} {B : pT} {M : qM} (hn : n < 512) (hr : c_rl n B M) : e102 (d + 5) h c i M (p_ok (n + 1) (e173 (d' + 4) h c i)) (p_ex (n + 1) (e173 (d' + 4) h c i) 0 2 1) := by
  obtain ⟨d1, d2, d3⟩ := hr.2.2.1.1
  have bk := hr.2.1.1
  have mk := hr.2.1.2.1
  have hB := hr.1.2.1
  have hB2 := hr.1.2.2
  have n512 := hr.1.1
  have sr := hr.2.2.2.1.1
  have s68 := hr.2.2.2.1.2.2
  have h68 : ∀ x, 0 ≤ x → x < 30 → 0 ≤ M 68 0 x ∧ M 68 0 x ≤ 1000 := fun x a b => by have := s68 x a b; omega
  have nk : 0 ≤ M 11 0 12 ∧ M 11 0 12 ≤ 20 := by omega
  have mv : ∀ w, 0 ≤ w → w < M 11 0 12 → 0 ≤ M 74 0 w ∧ M 74 0 w ≤ 9 := fun w w0 w1 => by
    have z := d3 w w0 (by omega)
    rw [z.2.2.1]; exact z.2.2.2.2.2.1
  have cg : ∀ w, 0 ≤ w → w < M 5 0 2 → M 73 0 w = M 33 0 w ∧ M 74 0 w = M 34 0 w := fun w w0 w1 => ⟨(d3 w w0 w1).2.1, (d3 w w0 w1).2.2.1⟩
  have fitc := fun cc bt => y_fit_cg (B := B) (c := cc) (but := bt) d1.1 cg
  have ub : ∀ c, 0 ≤ c → c < 3 → M 1 c 1 ≤ 10 := fun c a b => by rw [bk.1 c a b]; exact (hB.1 c a b).1.2
  have qq : ((0 ≤ c ∧ c < 3) ∧ 0 ≤ i ∧ i < M 1 c 1) ↔ ((0 ≤ c ∧ c < 3) ∧ 0 ≤ i ∧ i < B 0 c) := ⟨fun z => ⟨z.1, z.2.1, by rw [← bk.1 c z.1.1 z.1.2]; exact z.2.2⟩, fun z => ⟨z.1, z.2.1, by rw [bk.1 c z.1.1 z.1.2]; exact z.2.2⟩⟩
  refine w102 hS (t134 hS ub (fun qi => ?_) (fun qi => Or.inr (Or.inr ⟨rfl, by decide, p_exc hn hr (fun F H => t173 hS hB hB2 mk rfl nk mv h68 (fun _ => H 0) (fun z => absurd (qq.mpr z) qi) (fun z => absurd (qq.mpr z) qi))⟩)))
  have qi := qq.mp qi
  have qc := qi.1
  have n10 := (hB.1 c qc.1 qc.2).1
  have e5 : (1 : Int) + 10 * c + i = 1 + (10 * c + i) := by omega
  rw [e5]
  have bkx := bk.2.1 (10 * c + i) (by omega) (by omega)
  have mkx := mk.2.1 (10 * c + i) (by omega) (by omega)
  have no : ¬ (B 1 (10 * c + i) = 0 ∧ y_fit B c i (M 33 0) (M 34 0) (M 5 0 2)) → p_ex (n + 1) (e173 (d' + 4) h c i) 0 2 1 1 M := fun q => Or.inr (Or.inl ⟨rfl, by decide, p_exc hn hr (fun F H => t173 hS hB hB2 mk rfl nk mv h68 (fun z => absurd qi z) (fun _ _ => H 0) (fun _ k1 k2 => absurd ⟨k1, (fitc c i).mp (by rw [← d2]; exact k2)⟩ q))⟩)
  refine ⟨fun qh => ?_, fun qh => w102_23 hS (no (fun k => qh (by rw [bkx.1]; exact k.1)))⟩
  have h1 : B 1 (10 * c + i) = 0 := by rw [← bkx.1]; exact qh
  refine t141 hS hB bk qc ⟨by omega, by omega⟩ rfl d1 (fun w w0 w1 => (d3 w w0 w1).2.2.2.2.2.1) (fun fit => ⟨fun z => absurd z (by decide), fun _ => ⟨⟨by omega, by omega⟩, fun M1 f1 M2 f2 => ?_⟩⟩) (fun fit => ⟨fun _ => w102_23 hS (no (fun k => fit k.2)), fun z => absurd rfl z⟩)
  have O2 : ∀ (k : Nat) (m s : Int), ¬ (k = 10 ∧ m = 0 ∧ s = 14) → ¬ (k = 5 ∧ m = 1 + (10 * c + i) ∧ s = 3) → M2 k m s = M k m s := fun k m s q q2 => by rw [f2, f1]; unfold qU; rw [if_neg (by omega), if_neg (by omega)]
  have a14 : M2 10 0 14 = M 10 0 14 + 1 := by rw [f2, qU_k (by decide), f1, qU_s]
  have a3 : M2 5 (1 + (10 * c + i)) 3 = M 10 0 14 + 1 := by rw [f2, qU_s, f1, qU_s]
  refine t45 hS (n := M 5 0 2) (by omega) (O2 _ _ _ (by omega) (by omega)) d1 (fun M3 O3 b0 b2 b8 b35 bw M5 f5 M6 f6 => ?_)
  have O6 : ∀ (k : Nat) (m s : Int), ¬ (k = 5 ∧ m = 0 ∧ s = 2) → ¬ (k = 10 ∧ m = 0 ∧ s = 13) → M6 k m s = M3 k m s := fun k m s q q2 => by rw [f6, f5]; unfold qU; rw [if_neg (by omega), if_neg (by omega)]
  have e52 : M 5 (1 + (10 * c + i)) 2 = B 3 (10 * c + i) := bkx.2.2.1
  rw [e52]
  intro M4 f4
  have O4 : ∀ (k : Nat) (m s : Int), k ≠ 138 → M4 k m s = M6 k m s := fun k m s q => by rw [f4, qU_k q]
  have OM : ∀ (k : Nat) (m s : Int), (11 ≤ k ∧ k ≤ 31) ∨ (64 ≤ k ∧ k ≤ 135) → M4 k m s = M k m s := fun k m s q => by
    rw [O4 k m s (by omega), O6 k m s (by omega) (by omega), O3 k m s (by omega) (by omega) (by omega), O2 k m s (by omega) (by omega)]
  have mk4 : m_bk B M4 := ⟨fun c a b => by rw [OM _ _ _ (by omega)]; exact mk.1 c a b, fun x a b => by rw [OM _ _ _ (by omega), OM _ _ _ (by omega), OM _ _ _ (by omega)]; exact mk.2.1 x a b, fun y a b => by rw [OM _ _ _ (by omega), OM _ _ _ (by omega), OM _ _ _ (by omega)]; exact mk.2.2.1 y a b, by rw [OM _ _ _ (by omega), OM _ _ _ (by omega), OM _ _ _ (by omega)]; exact mk.2.2.2⟩
  have cg4 : ∀ w, 0 ≤ w → w < M 5 0 2 → M4 73 0 w = M 33 0 w ∧ M4 74 0 w = M 34 0 w := fun w w0 w1 => by rw [OM _ _ _ (by omega), OM _ _ _ (by omega)]; exact cg w w0 w1
  have fit4 := (y_fit_cg (B := B) (c := c) (but := i) d1.1 cg4).mpr fit
  refine t173 hS hB hB2 mk4 (n := M 5 0 2) (by rw [OM _ _ _ (by omega)]; exact d2) d1 (fun w w0 w1 => by rw [(cg4 w w0 w1).2]; exact (d3 w w0 w1).2.2.2.2.2.1) (fun x a b => by rw [OM _ _ _ (by omega)]; exact h68 x a b) (fun z => absurd qi z) (fun _ z => absurd ⟨h1, fit4⟩ z) (fun _ _ _ N ON w5 v67 v79 v68 v12 v22 v0 => ?_)
  have OA : ∀ (k : Nat) (m s : Int), ¬ c_scr k s → ¬ y_cz c (10 * c + i) (M 5 0 2) k m s → N k m s = M k m s := fun k m s q q2 => by
    obtain ⟨n1, n2, n3, n4, n5, n6, n7, n8, n9, n10⟩ := y_cz_f q2
    rw [ON k m s n9 (fun z => n10 ⟨by rcases z.1 with e | e | e <;> simp [e], z.2⟩) (fun z => by
      rcases z.2.2 with e | e | e
      · exact q (Or.inr (Or.inr (Or.inr (Or.inr (Or.inr (Or.inr ⟨z.1, Or.inl e⟩))))))
      · exact n4 ⟨z.1, z.2.1, Or.inl e⟩
      · exact n4 ⟨z.1, z.2.1, Or.inr e⟩), O4 k m s (fun z => q (Or.inl z)), O6 k m s n5 (fun z => n3 ⟨z.1, z.2.1, Or.inl z.2.2⟩), O3 k m s (fun z => n6 ⟨z.1, z.2.1, by rcases z.2.2 with e | e | e <;> simp [e]⟩) (fun z => n7 ⟨z.1, z.2.1, z.2.2⟩) (fun z => n8 ⟨z.1, z.2.1, z.2.2.1, z.2.2.2⟩), O2 k m s (fun z => n3 ⟨z.1, z.2.1, Or.inr z.2.2⟩) (fun z => n6 ⟨z.1, z.2.1, by simp [z.2.2]⟩)]
  have nN : ∀ (k : Nat) (m s : Int), k ≤ 63 → k ≠ 11 → N k m s = M6 k m s := fun k m s q q2 => by rw [ON k m s (by omega) (by omega) (by omega), O4 k m s (by omega)]
  have sm : ∀ (k : Nat) (s : Int), (64 ≤ k ∧ k ≤ 66) → N k 0 s = M k 0 s := fun k s q => by rw [ON _ _ _ (by omega) (by omega) (by omega), OM _ _ _ (by omega)]
  refine ⟨v0, rfl, ?_, y_np B c (10 * c + i) (B 0 c) 0 (B 2 (10 * c + i)) (M 5 0 2) (M 10 0 14 + 1) (M 32 0) (M 33 0) (M 34 0), c_rl_np hr hn qc ⟨qi.2.1, by omega⟩ rfl (Or.inr ⟨rfl, qi.2.2⟩) d1 (Or.inr ⟨rfl, by have := fit.1; omega⟩) (fun w w0 w1 => (d3 w w0 w1).2.2.2) (y_np_lim ⟨qi.2.1, by omega⟩ rfl (Or.inr ⟨rfl, qi.2.2, rfl⟩) n10 d1 hB.2.1 fit.2.2.2.1 fit.2.2.1 fit.2.1) OA ⟨?_, ?_⟩ ⟨?_, ?_, v22⟩ ⟨?_, ?_, ?_, ?_⟩ ⟨?_, ?_, v67⟩ (fun w w0 w1 => ⟨⟨?_, ?_, ?_⟩, ?_⟩) ⟨fun _ => ⟨?_, v79⟩, fun z => absurd rfl z⟩ (fun s s0 s1 => ?_) (Or.inr ⟨by rw [v68, OM _ _ _ (by omega)], qi.2.2⟩) ⟨?_, ?_, fun w w0 w1 => ?_⟩⟩
  · rw [ON _ _ _ (by omega) (by omega) (by omega), f4, qU_s]
  · rw [nN _ _ _ (by omega) (by omega), O6 _ _ _ (by omega) (by omega), O3 _ _ _ (by omega) (by omega) (by omega), O2 _ _ _ (by omega) (by omega)]; exact bk.1 c qc.1 qc.2
  · rw [sm 64 _ (by omega)]; exact mk.1 c qc.1 qc.2
  · rw [nN _ _ _ (by omega) (by omega), O6 _ _ _ (by omega) (by omega), O3 _ _ _ (by omega) (by omega) (by omega)]; exact a14
  · rw [nN _ _ _ (by omega) (by omega), f6, qU_s]
  · rw [nN _ _ _ (by omega) (by omega), O6 _ _ _ (by omega) (by omega)]; exact b0
  · rw [nN _ _ _ (by omega) (by omega), O6 _ _ _ (by omega) (by omega), O3 _ _ _ (by omega) (by omega) (by omega), O2 _ _ _ (by omega) (by omega)]; exact bkx.2.1
  · rw [nN _ _ _ (by omega) (by omega), O6 _ _ _ (by omega) (by omega)]; exact b2
  · rw [nN _ _ _ (by omega) (by omega), O6 _ _ _ (by omega) (by omega), O3 _ _ _ (by omega) (by omega) (by omega)]; exact a3
  · rw [sm 65 _ (by omega), mkx.1]; exact h1
  · rw [sm 66 _ (by omega)]; exact mkx.2.1
  · rw [nN _ _ _ (by omega) (by omega), O6 _ _ _ (by omega) (by omega), (bw w w0 w1).1]
    exact O2 _ _ _ (by omega) (by omega)
  · rw [nN _ _ _ (by omega) (by omega), O6 _ _ _ (by omega) (by omega), (bw w w0 w1).2.1]
    exact O2 _ _ _ (by omega) (by omega)
  · rw [nN _ _ _ (by omega) (by omega), O6 _ _ _ (by omega) (by omega), (bw w w0 w1).2.2]
    exact O2 _ _ _ (by omega) (by omega)
  · have g := w5 w w0 w1
    have d3w := d3 w w0 w1
    rw [g.1, g.2.1, g.2.2, OM _ _ _ (by omega), OM _ _ _ (by omega), OM _ _ _ (by omega)]
    exact ⟨d3w.1, d3w.2.1, d3w.2.2.1⟩
  · rw [nN _ _ _ (by omega) (by omega), O6 _ _ _ (by omega) (by omega)]; exact b8
  · rw [nN _ _ _ (by omega) (by omega), O6 _ _ _ (by omega) (by omega)]; exact b35 s s0 s1
  · have : N 5 0 2 = 0 := by rw [nN _ _ _ (by omega) (by omega), f6, qU_k (by decide), f5, qU_s]
    omega
  · have : N 5 0 2 = 0 := by rw [nN _ _ _ (by omega) (by omega), f6, qU_k (by decide), f5, qU_s]
    omega
  · have : N 5 0 2 = 0 := by rw [nN _ _ _ (by omega) (by omega), f6, qU_k (by decide), f5, qU_s]
    omega
