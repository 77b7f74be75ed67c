/-! ===== head ===== -/
theorem y_cs_lim {B : pT} {c : Int} (hB : c_ok B) (hc : 0 ≤ c ∧ c < 3) : y_cs B 3 c (-1) ≤ 4 ∧ y_cs B 2 c (-1) ≤ 12 ∧ y_cs B (-1) c (-1) ≤ 60 := by
  obtain ⟨n10, l3, l2, l1⟩ := hB.1 c hc.1 hc.2
  have e : ∀ t, y_cs B t c (-1) = p_sum (fun j => y_item B t (10 * c + j)) (B 0 c) := fun t => p_sum_cg n10.1 (fun j j0 j1 => by
    show y_cg B t c (-1) j = y_item B t (10 * c + j)
    unfold y_cg
    rw [if_neg (by omega)])
  rw [e 3, e 2, e (-1), ← y_SF n10 hB.2.1, ← y_SN n10 hB.2.1]
  refine ⟨l3, l2, ?_⟩
  have e1 : p_sum (fun j => y_item B (-1) (10 * c + j)) (B 0 c) = p_sum (fun i => B 3 (10 * c + i)) (B 0 c) := p_sum_cg n10.1 (fun j j0 j1 => y_item_w hB)
  rw [e1]; exact l1
theorem t172 {d : Nat} {h : qH} (hS : qSe h) {c lv nd : Int} {B : pT} {M : qM} {f : Int → qM → Prop} (hB : c_ok B) (hM : m_bk B M) (H0 : ¬ (0 ≤ c ∧ c < 3) → ∀ N, N = qU M 11 0 0 1 → f 0 N) (H2 : 0 ≤ c ∧ c < 3 → ¬ ((0 ≤ lv ∧ lv ≤ 1) ∧ 1 ≤ nd ∧ nd ≤ 3) → ∀ N, N = qU M 11 0 0 2 → f 0 N) (H3 : 0 ≤ c ∧ c < 3 → ((0 ≤ lv ∧ lv ≤ 1) ∧ 1 ≤ nd ∧ nd ≤ 3) → B 0 c = 10 → ∀ N, N = qU M 11 0 0 3 → f 0 N)
    (H1 : 0 ≤ c ∧ c < 3 → ((0 ≤ lv ∧ lv ≤ 1) ∧ 1 ≤ nd ∧ nd ≤ 3) → B 0 c ≠ 10 → ∀ N, (∀ (k : Nat) (m s : Int), ¬ ((k = 65 ∨ k = 66) ∧ m = 0 ∧ s = 10 * c + B 0 c) → ¬ (k = 64 ∧ m = 0 ∧ s = c) → ¬ (k = 11 ∧ m = 0 ∧ (s = 0 ∨ s = 22)) → N k m s = M k m s) → N 65 0 (10 * c + B 0 c) = 1 → N 66 0 (10 * c + B 0 c) = nd → N 64 0 c = B 0 c + 1 → N 11 0 22 = 0 → N 11 0 0 = 0 → f (B 0 c) N) : e172 (d + 3) h c lv nd M f := by
  refine w172 hS (t155 hS (fun qc => ⟨fun z => absurd z (by decide), fun _ => t152 hS (fun ql => ⟨fun z => absurd z (by decide), fun _ => t152 hS (fun qn => ⟨fun _ => qc, fun x hx N f0 => ?_⟩) (fun qn => ⟨fun _ => qc, fun x hx N f0 => ?_⟩)⟩) (fun ql => ⟨fun _ N hN => ⟨fun z => by rw [hN, qU_s] at z; omega, fun _ => H2 qc (fun k => ql k.1) N hN⟩, fun z => absurd rfl z⟩)⟩) (fun qc => ⟨fun _ N hN => ⟨fun z => by rw [hN, qU_s] at z; omega, fun _ => H0 qc N hN⟩, fun z => absurd rfl z⟩))
  · have n10 := (hB.1 c qc.1 qc.2).1
    have e64 := hM.1 c qc.1 qc.2
    rw [if_neg (by decide), e64] at hx
    have v0 : N 11 0 0 = x := by rw [f0, qU_s]
    rw [v0]
    by_cases q10 : B 0 c = 10
    · rw [if_pos q10] at hx
      exact ⟨fun z => by omega, fun _ => H3 qc ⟨ql, qn⟩ q10 N (by rw [f0, hx])⟩
    · rw [if_neg q10] at hx
      have o0 : ∀ (k : Nat) (m s : Int), ¬ (k = 11 ∧ m = 0 ∧ s = 0) → N k m s = M k m s := fun k m s q => by rw [f0]; unfold qU; rw [if_neg q]
      have e0 : N 64 0 c = B 0 c := by rw [o0 _ _ _ (by omega)]; exact e64
      rw [e0]
      refine ⟨fun _ => ⟨⟨by omega, by omega⟩, qc, ⟨by omega, by omega⟩, ⟨by omega, by omega⟩, fun M1 f1 => ?_⟩, fun z => by omega⟩
      have e1 : M1 64 0 c = B 0 c := by rw [f1, qU_k (by decide)]; exact e0
      rw [e1]
      refine ⟨⟨by omega, by omega⟩, qc, ⟨by omega, by omega⟩, ⟨by omega, by omega⟩, fun M2 f2 => ⟨qc, ?_⟩⟩
      have e2 : M2 64 0 c = B 0 c := by rw [f2, qU_k (by decide)]; exact e1
      rw [e2]
      refine ⟨⟨by omega, by omega⟩, qc, fun M3 f3 M4 f4 => ⟨qc, ?_⟩⟩
      have e4 : M4 64 0 c = B 0 c + 1 := by rw [f4, qU_k (by decide), f3, qU_s]
      rw [e4, show B 0 c + 1 - 1 = B 0 c by omega]
      refine ⟨⟨by omega, by omega⟩, H1 qc ⟨ql, qn⟩ q10 M4 (fun k m s q1 q2 q3 => ?_) ?_ ?_ e4 ?_ ?_⟩
      · rw [f4, f3, f2, f1]; unfold qU; rw [if_neg (by omega), if_neg (by omega), if_neg (by omega), if_neg (by omega)]; exact o0 k m s (by omega)
      · rw [f4, qU_k (by decide), f3, qU_k (by decide), f2, qU_k (by decide), f1, qU_s]
      · rw [f4, qU_k (by decide), f3, qU_k (by decide), f2, qU_s]
      · rw [f4, qU_s]
      · rw [f4, qU_l (by decide), f3, qU_k (by decide), f2, qU_k (by decide), f1, qU_k (by decide), v0]; exact hx
  · rw [if_pos rfl] at hx
    have v0 : N 11 0 0 = 2 := by rw [f0, qU_s, hx]
    exact ⟨fun z => by omega, fun _ => H2 qc (fun k => qn k.2) N (by rw [f0, hx])⟩
set_option maxHeartbeats 4000000 in
theorem y101 {d d' : Nat} {h : qH} (hS : qSe h) {n c lv nd : Int} {B : pT} {M : qM} (hn : n < 512) (hr : c_rl n B M) : e101 (d + 2) h c lv nd M (p_ok (n + 1) (e172 (d' + 3) h c lv nd)) (p_ex (n + 1) (e172 (d' + 3) h c lv nd) 2 3 1) := by
  obtain ⟨d1, d2, d3⟩ := hr.2.2.1.1
  have bk := hr.2.1.1
  have mk := hr.2.1.2.1
  have hB := hr.1.2.1
  have hB2 := hr.1.2.2
  have no : 0 ≤ c ∧ c < 3 → ¬ ((0 ≤ lv ∧ lv ≤ 1) ∧ 1 ≤ nd ∧ nd ≤ 3) → p_ex (n + 1) (e172 (d' + 3) h c lv nd) 2 3 1 0 M := fun qc q => Or.inl ⟨rfl, by decide, p_exc hn hr (fun F H => t172 hS hB mk (fun z => absurd qc z) (fun _ _ => H 0) (fun _ z => absurd z q) (fun _ z => absurd z q))⟩
  refine w101 hS (t133 hS (fun qc => ⟨fun z => w101_24 hS (no qc (by omega)), fun z1 => ⟨fun z2 => ⟨fun z => w101_24 hS (no qc (by omega)), fun z3 => ⟨fun z4 => ⟨qc, fun q10 => ⟨qc, ?_⟩, fun q10 => ?_⟩, fun z => w101_24 hS (no qc (by omega))⟩⟩, fun z => w101_24 hS (no qc (by omega))⟩⟩) (fun qc => Or.inr (Or.inr ⟨rfl, by decide, p_exc hn hr (fun F H => t172 hS hB mk (fun _ => H 0) (fun z => absurd z qc) (fun z => absurd z qc) (fun z => absurd z qc))⟩)))
  · have n10 := (hB.1 c qc.1 qc.2).1
    have e1 := bk.1 c qc.1 qc.2
    have sr := hr.2.2.2.1.1
    refine t140 hS (i := B 0 c) (sr := M 10 0 14) e1 ⟨by omega, by omega⟩ rfl ⟨by omega, by have := hr.1.1; omega⟩ (fun M1 O1 a1 a14 a3 a13 => t46 hS (fun M2 O2 b0 b1 b10 => ⟨qc, ?_⟩))
    have e3 : M2 1 c 1 = B 0 c + 1 := by rw [O2 _ _ _ (by omega)]; exact a1
    rw [e3, show B 0 c + 1 - 1 = B 0 c by omega]
    refine ⟨⟨by omega, by omega⟩, fun M4 f4 => ?_⟩
    have O4 : ∀ (k : Nat) (m s : Int), k ≠ 138 → M4 k m s = M2 k m s := fun k m s q => by rw [f4, qU_k q]
    have OM : ∀ (k : Nat) (m s : Int), (11 ≤ k ∧ k ≤ 135) → M4 k m s = M k m s := fun k m s q => by
      rw [O4 k m s (by omega), O2 k m s (by omega), O1 k m s (by omega) (by omega) (by omega)]
    have mk4 : m_bk B M4 := ⟨fun c a b => by rw [OM _ _ _ (by omega)]; exact mk.1 c a b, fun x a b => by rw [OM _ _ _ (by omega), OM _ _ _ (by omega), OM _ _ _ (by omega)]; exact mk.2.1 x a b, fun y a b => by rw [OM _ _ _ (by omega), OM _ _ _ (by omega), OM _ _ _ (by omega)]; exact mk.2.2.1 y a b, by rw [OM _ _ _ (by omega), OM _ _ _ (by omega), OM _ _ _ (by omega)]; exact mk.2.2.2⟩
    refine t172 hS hB mk4 (fun z => absurd qc z) (fun _ z => absurd ⟨by omega, by omega⟩ z) (fun _ _ z => by omega) (fun _ _ _ N ON v65 v66 v64 v22 v0 => ?_)
    have e5 : (1 : Int) + (10 * c + B 0 c) = 1 + 10 * c + B 0 c := by omega
    have OA : ∀ (k : Nat) (m s : Int), ¬ c_scr k s → ¬ y_cz c (10 * c + B 0 c) 0 k m s → N k m s = M k m s := fun k m s q q2 => by
      obtain ⟨n1, n2, n3, n4, n5, n6, n7, n8, n9, n10⟩ := y_cz_f q2
      rw [ON k m s (fun z => n10 ⟨by rcases z.1 with e | e <;> simp [e], z.2⟩) n2 (fun z => by
        rcases z.2.2 with e | e
        · exact q (Or.inr (Or.inr (Or.inr (Or.inr (Or.inr (Or.inr ⟨z.1, Or.inl e⟩))))))
        · exact n4 ⟨z.1, z.2.1, Or.inr e⟩), O4 k m s (fun z => q (Or.inl z)), O2 k m s (fun z => n6 ⟨z.1, z.2.1.trans e5.symm, by rcases z.2.2 with e | e | e <;> simp [e]⟩), O1 k m s n1 n3 (fun z => n6 ⟨z.1, z.2.1.trans e5.symm, by simp [z.2.2]⟩)]
    have nN : ∀ (k : Nat) (m s : Int), k ≤ 63 → k ≠ 11 → N k m s = M2 k m s := fun k m s q q2 => by rw [ON k m s (by omega) (by omega) (by omega), O4 k m s (by omega)]
    have mN : ∀ (k : Nat) (m s : Int), 67 ≤ k → k ≤ 135 → N k m s = M k m s := fun k m s q q2 => by rw [ON k m s (by omega) (by omega) (by omega), OM k m s (by omega)]
    have nt : ¬ (10 * c + B 0 c) % 10 < B 0 ((10 * c + B 0 c) / 10) := by rw [show (10 * c + B 0 c) / 10 = c by omega]; omega
    have bx := hB2 (10 * c + B 0 c) (by omega) (by omega) nt
    have bkx := bk.2.1 (10 * c + B 0 c) (by omega) (by omega)
    have mkx := mk.2.1 (10 * c + B 0 c) (by omega) (by omega)
    have cs := y_cs_lim hB qc
    have z0 : ∀ t, y_ws (fun _ => 0) (fun _ => 0) t 0 = 0 := fun t => p_sum_0
    have z02 := z0 2
    have z03 := z0 3
    refine ⟨v0, rfl, ?_, y_np B c (10 * c + B 0 c) (B 0 c + 1) 1 nd 0 (M 10 0 14 + 1) (fun _ => 0) (fun _ => 0) (fun _ => 0), c_rl_np hr hn qc ⟨n10.1, by omega⟩ rfl (Or.inl ⟨rfl, rfl⟩) (by decide) (Or.inl ⟨rfl, rfl, by omega, z4⟩) (fun w w0 w1 => by omega) (y_np_lim (but := -1) ⟨n10.1, by omega⟩ rfl (Or.inl ⟨rfl, rfl, rfl⟩) n10 (by decide) hB.2.1 (by omega) (by omega) (by omega)) OA ⟨?_, v64⟩ ⟨?_, ?_, v22⟩ ⟨?_, ?_, ?_, ?_⟩ ⟨v65, v66, ?_⟩ (fun w w0 w1 => by omega) ⟨fun z => absurd z (by decide), fun _ => ⟨?_, rfl⟩⟩ (fun s s0 s1 => ?_) (Or.inl ⟨mN _ _ _ (by omega) (by omega), rfl⟩) ⟨?_, ?_, fun w w0 w1 => ?_⟩⟩
    · rw [ON _ _ _ (by omega) (by omega) (by omega), f4, qU_s]
    · rw [nN _ _ _ (by omega) (by omega)]; exact e3
    · rw [nN _ _ _ (by omega) (by omega), O2 _ _ _ (by omega)]; exact a14
    · rw [nN _ _ _ (by omega) (by omega), O2 _ _ _ (by omega)]; exact a13
    · rw [nN _ _ _ (by omega) (by omega), e5]; exact b0
    · rw [nN _ _ _ (by omega) (by omega), e5]; exact b1
    · rw [nN _ _ _ (by omega) (by omega), O2 _ _ _ (by omega), O1 _ _ _ (by omega) (by omega) (by omega), bkx.2.2.1]; exact bx.2
    · rw [nN _ _ _ (by omega) (by omega), O2 _ _ _ (by omega), e5]; exact a3
    · rw [mN _ _ _ (by omega) (by omega), mkx.2.2]; exact bx.2
    · rw [nN _ _ _ (by omega) (by omega), e5]; exact b10
    · rw [nN _ _ _ (by omega) (by omega), O2 _ _ _ (by omega), O1 _ _ _ (by omega) (by omega) (by omega)]
      have z := hr.2.2.2.2.1.2.2.2.1.2 (20 * (10 * c + B 0 c) + s) (by omega) (by omega) (by
        unfold b_ch
        have : c_K B (20 * (10 * c + B 0 c) + s) = 0 := by
          unfold c_K
          rw [if_neg (fun k => nt (by have := k.1; rw [show (20 * (10 * c + B 0 c) + s) / 20 = 10 * c + B 0 c by omega, show (20 * (10 * c + B 0 c) + s) / 200 = (10 * c + B 0 c) / 10 by omega] at this; exact this))]
        rw [this]; decide)
      rw [show (20 * (10 * c + B 0 c) + s) / 20 = 10 * c + B 0 c by omega, show (20 * (10 * c + B 0 c) + s) % 20 = s by omega] at z
      exact z
    · rw [nN _ _ _ (by omega) (by omega), O2 _ _ _ (by omega), O1 _ _ _ (by omega) (by omega) (by omega)]; exact d1
    · rw [ON _ _ _ (by omega) (by omega) (by omega), OM _ _ _ (by omega), nN _ _ _ (by omega) (by omega), O2 _ _ _ (by omega), O1 _ _ _ (by omega) (by omega) (by omega)]; exact d2
    · have o : ∀ k : Nat, 32 ≤ k → k ≤ 34 → N k 0 w = M k 0 w := fun k k0 k1 => by rw [nN _ _ _ (by omega) (by omega), O2 _ _ _ (by omega), O1 _ _ _ (by omega) (by omega) (by omega)]
      rw [nN 5 _ _ (by omega) (by omega), O2 _ _ _ (by omega), O1 _ _ _ (by omega) (by omega) (by omega)] at w1
      rw [mN 72 _ _ (by omega) (by omega), mN 73 _ _ (by omega) (by omega), mN 74 _ _ (by omega) (by omega), o 32 (by decide) (by decide), o 33 (by decide) (by decide), o 34 (by decide) (by decide)]
      exact d3 w w0 w1
  · have n10 := (hB.1 c qc.1 qc.2).1
    have e1 := bk.1 c qc.1 qc.2
    exact Or.inr (Or.inl ⟨rfl, by decide, p_exc hn hr (fun F H => t172 hS hB mk (fun z => absurd qc z) (fun _ z => absurd ⟨by omega, by omega⟩ z) (fun _ _ _ => H 0) (fun _ _ k => absurd (show B 0 c = 10 by omega) k))⟩)
