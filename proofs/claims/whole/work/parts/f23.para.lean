/-! ===== paragraph ===== -/
theorem y_cz_f {c x n : Int} {k : Nat} {m s : Int} (h : ¬ y_cz c x n k m s) : ¬ (k = 1 ∧ m = c ∧ s = 1) ∧ ¬ (k = 64 ∧ m = 0 ∧ s = c) ∧ ¬ (k = 10 ∧ m = 0 ∧ (s = 13 ∨ s = 14)) ∧ ¬ (k = 11 ∧ m = 0 ∧ (s = 12 ∨ s = 22)) ∧ ¬ (k = 5 ∧ m = 0 ∧ s = 2) ∧ ¬ (k = 5 ∧ m = 1 + x ∧ ((0 ≤ s ∧ s ≤ 3) ∨ s = 8 ∨ s = 10)) ∧ ¬ (k = 35 ∧ m = 1 + x ∧ 0 ≤ s ∧ s < 20) ∧ ¬ (32 ≤ k ∧ k ≤ 34 ∧ m = 1 + x ∧ 0 ≤ s ∧ s < n) ∧ ¬ (69 ≤ k ∧ k ≤ 71 ∧ m = 0 ∧ 20 * x ≤ s ∧ s < 20 * x + n) ∧ ¬ (((65 ≤ k ∧ k ≤ 68) ∨ k = 79) ∧ m = 0 ∧ s = x) := by
  unfold y_cz at h
  exact ⟨fun z => h (Or.inl z), fun z => h (Or.inr (Or.inl z)), fun z => h (Or.inr (Or.inr (Or.inl z))), fun z => h (Or.inr (Or.inr (Or.inr (Or.inl z)))), fun z => h (Or.inr (Or.inr (Or.inr (Or.inr (Or.inl z))))), fun z => h (Or.inr (Or.inr (Or.inr (Or.inr (Or.inr (Or.inl z)))))), fun z => h (Or.inr (Or.inr (Or.inr (Or.inr (Or.inr (Or.inr (Or.inl z))))))), fun z => h (Or.inr (Or.inr (Or.inr (Or.inr (Or.inr (Or.inr (Or.inr (Or.inl z)))))))), fun z => h (Or.inr (Or.inr (Or.inr (Or.inr (Or.inr (Or.inr (Or.inr (Or.inr (Or.inl z))))))))), fun z => h (Or.inr (Or.inr (Or.inr (Or.inr (Or.inr (Or.inr (Or.inr (Or.inr (Or.inr z))))))))) ⟩
theorem y_SF {B : pT} {c m : Int} (hm : 0 ≤ m ∧ m ≤ 10) (hn : ∀ x, 0 ≤ B 3 x ∧ B 3 x ≤ 20) : p_SF (c_A0 B c) m = p_sum (fun j => y_item B 3 (10 * c + j)) m := by
  refine p_sum_cg hm.1 (fun j j0 j1 => ?_)
  have v := fun w => c_A_v (B := B) (L := fun _ => 0) (E := fun _ _ => 0) (c := c) (i := j) (w := w) ⟨j0, by omega⟩
  show p_PF (c_A0 B c) j (c_A0 B c 6 j 0) = p_sum _ (B 3 (10 * c + j))
  unfold c_A0
  rw [(v 0).2.2.2.2.2.2]
  refine p_sum_cg (hn _).1 (fun w w0 w1 => ?_)
  show (if c_A _ _ _ c 4 j w = 3 then (1 : Int) else 0) = y_wg _ _ 3 w
  rw [(v w).2.2.2.2.1]
  rfl
theorem y_SN {B : pT} {c m : Int} (hm : 0 ≤ m ∧ m ≤ 10) (hn : ∀ x, 0 ≤ B 3 x ∧ B 3 x ≤ 20) : p_SN (c_A0 B c) m = p_sum (fun j => y_item B 2 (10 * c + j)) m := by
  refine p_sum_cg hm.1 (fun j j0 j1 => ?_)
  have v := fun w => c_A_v (B := B) (L := fun _ => 0) (E := fun _ _ => 0) (c := c) (i := j) (w := w) ⟨j0, by omega⟩
  show p_PN (c_A0 B c) j (c_A0 B c 6 j 0) = p_sum _ (B 3 (10 * c + j))
  unfold c_A0
  rw [(v 0).2.2.2.2.2.2]
  refine p_sum_cg (hn _).1 (fun w w0 w1 => ?_)
  show (if c_A _ _ _ c 4 j w = 2 then c_A _ _ _ c 5 j w else 0) = y_wg _ _ 2 w
  rw [(v w).2.2.2.2.1, (v w).2.2.2.2.2.1]
  rfl
theorem y_ws_1 {K V : Int → Int} {n : Int} (hn : 0 ≤ n) : y_ws K V (-1) n = n := by
  refine q_upto (P := fun z => 0 ≤ z → p_sum (y_wg K V (-1)) z = z → p_sum (y_wg K V (-1)) n = n) hn (fun _ q => q) (fun z z0 z1 ih _ q => ih (by omega) ?_) (Int.le_refl _) p_sum_0
  rw [p_sum_s z0, q]
  unfold y_wg
  rw [if_pos rfl]
theorem p_sum_one {g g' : Int → Int} {i a n : Int} (hi : 0 ≤ i ∧ i < n) (h : ∀ j, 0 ≤ j → j < n → j ≠ i → g' j = g j) (h1 : g' i = a) (h2 : g i = 0) : p_sum g' n = p_sum g n + a := by
  refine q_upto (P := fun z => 0 ≤ z → p_sum g' z = p_sum g z + (if i < z then a else 0) → p_sum g' n = p_sum g n + a) (a := 0) (b := n) (by omega) (fun _ q => by rw [if_pos hi.2] at q; exact q) (fun z z0 z1 ih _ q => ih (by omega) ?_) (Int.le_refl _) (by rw [p_sum_0, p_sum_0, if_neg (by omega)]; rfl)
  rw [p_sum_s z0, p_sum_s z0, q]
  by_cases e : z = i
  · rw [e, h1, h2, if_neg (by omega), if_pos (by omega)]
    try omega
  · rw [h z z0 z1 e]
    by_cases e2 : i < z
    · rw [if_pos e2, if_pos (by omega)]; omega
    · rw [if_neg e2, if_neg (by omega)]; omega
theorem y_np_sum {B : pT} {c i x n0 hd nd n sr but t : Int} {W K V : Int → Int} (hi : 0 ≤ i ∧ i < 10) (hx : x = 10 * c + i) (hn0 : (n0 = i + 1 ∧ i = B 0 c ∧ but = -1) ∨ (n0 = B 0 c ∧ i < B 0 c ∧ but = i)) (n10 : 0 ≤ B 0 c ∧ B 0 c ≤ 10) (hn : 0 ≤ n ∧ n ≤ 20) (h3 : ∀ x, 0 ≤ B 3 x ∧ B 3 x ≤ 20) : p_sum (fun j => y_item (y_np B c x n0 hd nd n sr W K V) t (10 * c + j)) n0 = y_cs B t c but + y_ws K V t n := by
  have it : ∀ j, j ≠ i → y_item (y_np B c x n0 hd nd n sr W K V) t (10 * c + j) = y_item B t (10 * c + j) := fun j e => by
    have q := y_np_o (B := B) (c := c) (x := x) (n0 := n0) (hd := hd) (nd := nd) (sr := sr) (W := W) (K := K) (V := V) (z := 10 * c + j) hn.2 (by omega)
    have nb := h3 (10 * c + j)
    unfold y_item
    rw [q.2.2.1]
    refine y_ws_cg nb.1 (fun w w0 w1 => ?_)
    have z := q.2.2.2.2 (20 * (10 * c + j) + w) (by omega)
    exact ⟨z.1, z.2.1⟩
  have itx : y_item (y_np B c x n0 hd nd n sr W K V) t (10 * c + i) = y_ws K V t n := by
    unfold y_item
    rw [y_np_3, if_pos hx.symm]
    refine y_ws_cg hn.1 (fun w w0 w1 => ?_)
    have z := y_np_w (B := B) (c := c) (x := x) (n0 := n0) (hd := hd) (nd := nd) (n := n) (sr := sr) (W := W) (K := K) (V := V) (y := 20 * (10 * c + i) + w) (by omega) (by omega)
    rw [show (20 * (10 * c + i) + w) % 20 = w by omega] at z
    exact ⟨z.1, z.2.1⟩
  rcases hn0 with ⟨e1, e2, e3⟩ | ⟨e1, e2, e3⟩
  · subst e1
    rw [p_sum_s hi.1, itx]
    have e : p_sum (fun j => y_item (y_np B c x (i + 1) hd nd n sr W K V) t (10 * c + j)) i = y_cs B t c but := by
      show _ = p_sum (y_cg B t c but) (B 0 c)
      rw [← e2]
      refine p_sum_cg hi.1 (fun j j0 j1 => ?_)
      show _ = y_cg B t c but j
      unfold y_cg
      rw [if_neg (by omega), ← it j (by omega)]
    rw [e]
  · subst e1
    refine p_sum_one (i := i) ⟨hi.1, e2⟩ (fun j j0 j1 e => ?_) itx ?_
    · show _ = y_cg B t c but j
      unfold y_cg
      rw [if_neg (by omega)]
      exact it j e
    · unfold y_cg
      rw [if_pos (by omega)]
theorem y_np_lim {B : pT} {c i x n0 hd nd n sr but : Int} {W K V : Int → Int} (hi : 0 ≤ i ∧ i < 10) (hx : x = 10 * c + i) (hn0 : (n0 = i + 1 ∧ i = B 0 c ∧ but = -1) ∨ (n0 = B 0 c ∧ i < B 0 c ∧ but = i)) (n10 : 0 ≤ B 0 c ∧ B 0 c ≤ 10) (hn : 0 ≤ n ∧ n ≤ 20) (h3 : ∀ x, 0 ≤ B 3 x ∧ B 3 x ≤ 20) (l3 : y_cs B 3 c but + y_ws K V 3 n ≤ 4) (l2 : y_cs B 2 c but + y_ws K V 2 n ≤ 12) (l1 : y_cs B (-1) c but + n ≤ 60) : p_SF (c_A0 (y_np B c x n0 hd nd n sr W K V) c) n0 ≤ 4 ∧ p_SN (c_A0 (y_np B c x n0 hd nd n sr W K V) c) n0 ≤ 12 ∧ p_sum (fun i => y_np B c x n0 hd nd n sr W K V 3 (10 * c + i)) n0 ≤ 60 := by
  have s := fun t => y_np_sum (t := t) (hd := hd) (nd := nd) (sr := sr) (W := W) (K := K) (V := V) hi hx hn0 n10 hn h3
  have h3' : ∀ z, 0 ≤ y_np B c x n0 hd nd n sr W K V 3 z ∧ y_np B c x n0 hd nd n sr W K V 3 z ≤ 20 := fun z => by
    rw [y_np_3]; split
    · exact hn
    · exact h3 z
  have m : 0 ≤ n0 ∧ n0 ≤ 10 := by omega
  rw [y_SF m h3', y_SN m h3', s 3, s 2]
  refine ⟨l3, l2, ?_⟩
  have e : p_sum (fun i => y_np B c x n0 hd nd n sr W K V 3 (10 * c + i)) n0 = p_sum (fun j => y_item (y_np B c x n0 hd nd n sr W K V) (-1) (10 * c + j)) n0 := p_sum_cg m.1 (fun j j0 j1 => (y_ws_1 (h3' _).1).symm)
  rw [e, s (-1), y_ws_1 hn.1]
  exact l1
theorem t171 {d : Nat} {h : qH} (hS : qSe h) {c n : Int} {B : pT} {M : qM} {f : Int → qM → Prop} (hB : c_ok B) (hB2 : c_ok2 B) (hM : m_bk B M) (hn : M 11 0 12 = n) (hn2 : 0 ≤ n ∧ n ≤ 20) (hv : ∀ w, 0 ≤ w → w < n → 0 ≤ M 74 0 w ∧ M 74 0 w ≤ 9) (H0 : ¬ (0 ≤ c ∧ c < 3) → ∀ N, N = qU M 11 0 0 1 → f 0 N) (H2 : 0 ≤ c ∧ c < 3 → ¬ (B 0 c ≠ 10 ∧ y_fit B c (-1) (M 73 0) (M 74 0) n) → ∀ N, N = qU M 11 0 0 2 → f 0 N)
    (H1 : 0 ≤ c ∧ c < 3 → B 0 c ≠ 10 → y_fit B c (-1) (M 73 0) (M 74 0) n → ∀ N, (∀ (k : Nat) (m s : Int), ¬ (69 ≤ k ∧ k ≤ 71 ∧ m = 0 ∧ 20 * (10 * c + B 0 c) ≤ s ∧ s < 20 * (10 * c + B 0 c) + n) → ¬ ((k = 67 ∨ k = 79) ∧ m = 0 ∧ s = 10 * c + B 0 c) → ¬ (k = 11 ∧ m = 0 ∧ (s = 0 ∨ s = 12 ∨ s = 22)) → ¬ (k = 64 ∧ m = 0 ∧ s = c) → N k m s = M k m s) → (∀ w, 0 ≤ w → w < n → N 69 0 (20 * (10 * c + B 0 c) + w) = M 72 0 w ∧ N 70 0 (20 * (10 * c + B 0 c) + w) = M 73 0 w ∧ N 71 0 (20 * (10 * c + B 0 c) + w) = M 74 0 w) → N 67 0 (10 * c + B 0 c) = n → N 79 0 (10 * c + B 0 c) = 0 → N 11 0 12 = 0 → N 11 0 22 = 0 → N 64 0 c = B 0 c + 1 → N 11 0 0 = 0 → f (B 0 c) N) : e171 (d + 4) h c M f := by
  refine w171 hS (t155 hS (fun qc => ⟨fun z => absurd z (by decide), fun _ => ?_⟩) (fun qc => ⟨fun _ N hN => ⟨fun z => by rw [hN, qU_s] at z; omega, fun _ => H0 qc N hN⟩, fun z => absurd rfl z⟩))
  have n10 := (hB.1 c qc.1 qc.2).1
  have e64 := hM.1 c qc.1 qc.2
  refine ⟨qc, fun z N hN => ⟨fun z => by rw [hN, qU_s] at z; omega, fun _ => H2 qc (fun k => k.1 (by omega)) N hN⟩, fun z => t169 hS hB hB2 hM qc (by decide) hn hn2 hv (fun fit x hx M1 f1 => ?_) (fun fit x hx M1 f1 => ?_)⟩
  · rw [if_neg (by decide)] at hx
    have o1 : ∀ (k : Nat) (m s : Int), ¬ (k = 11 ∧ m = 0 ∧ s = 0) → M1 k m s = M k m s := fun k m s q => by rw [f1]; unfold qU; rw [if_neg q]
    have v0 : M1 11 0 0 = 0 := by rw [f1, qU_s, hx]
    have e1 : M1 64 0 c = B 0 c := by rw [o1 _ _ _ (by omega)]; exact e64
    rw [e1]
    refine ⟨fun _ => ⟨⟨by omega, by omega⟩, qc, ⟨by omega, by omega⟩, t170 hS (n := n) ⟨by omega, by omega⟩ (by rw [o1 _ _ _ (by omega)]; exact hn) hn2 (fun M2 O2 w2 a67 a79 a12 a22 => ⟨qc, ?_⟩)⟩, fun z => by omega⟩
    have e2 : M2 64 0 c = B 0 c := by rw [O2 _ _ _ (by omega) (by omega) (by omega)]; exact e1
    rw [e2]
    refine ⟨⟨by omega, by omega⟩, qc, fun M3 f3 => ⟨qc, ?_⟩⟩
    have O3 : ∀ (k : Nat) (m s : Int), ¬ (k = 64 ∧ m = 0 ∧ s = c) → M3 k m s = M2 k m s := fun k m s q => by rw [f3]; unfold qU; rw [if_neg q]
    have e3 : M3 64 0 c = B 0 c + 1 := by rw [f3, qU_s]
    rw [e3, show B 0 c + 1 - 1 = B 0 c by omega]
    refine ⟨⟨by omega, by omega⟩, H1 qc (by omega) fit M3 (fun k m s q1 q2 q3 q4 => ?_) (fun w w0 w1 => ?_) ?_ ?_ ?_ ?_ e3 ?_⟩
    · rw [O3 k m s q4, O2 k m s q1 q2 (by omega), o1 k m s (by omega)]
    · have g := w2 w w0 w1
      rw [O3 _ _ _ (by omega), O3 _ _ _ (by omega), O3 _ _ _ (by omega), g.1, g.2.1, g.2.2, o1 _ _ _ (by omega), o1 _ _ _ (by omega), o1 _ _ _ (by omega)]
      exact ⟨rfl, rfl, rfl⟩
    · rw [O3 _ _ _ (by omega)]; exact a67
    · rw [O3 _ _ _ (by omega)]; exact a79
    · rw [O3 _ _ _ (by omega)]; exact a12
    · rw [O3 _ _ _ (by omega)]; exact a22
    · rw [O3 _ _ _ (by omega), O2 _ _ _ (by omega) (by omega) (by omega)]; exact v0
  · rw [if_pos rfl] at hx
    have v0 : M1 11 0 0 = 2 := by rw [f1, qU_s, hx]
    exact ⟨fun z => by omega, fun _ => H2 qc (fun k => fit k.2) M1 (by rw [f1, hx])⟩
set_option maxHeartbeats 4000000 in
theorem y100 {d d' : Nat} {h : qH} (hS : qSe h) {n c : Int} {B : pT} {M : qM} (hn : n < 512) (hr : c_rl n B M) : e100 (d + 5) h c M (p_ok (n + 1) (e171 (d' + 4) h c)) (p_ex (n + 1) (e171 (d' + 4) h c) 0 2 1) := by
  obtain ⟨d1, d2, d3⟩ := hr.2.2.1.1
  have bk := hr.2.1.1
  have mk := hr.2.1.2.1
  have hB := hr.1.2.1
  have hB2 := hr.1.2.2
  have nk : 0 ≤ M 11 0 12 ∧ M 11 0 12 ≤ 20 := by omega
  have mv : ∀ w, 0 ≤ w → w < M 11 0 12 → 0 ≤ M 74 0 w ∧ M 74 0 w ≤ 9 := fun w w0 w1 => by
    have z := d3 w w0 (by omega)
    rw [z.2.2.1]; exact z.2.2.2.2.2.1
  have cg : ∀ w, 0 ≤ w → w < M 5 0 2 → M 73 0 w = M 33 0 w ∧ M 74 0 w = M 34 0 w := fun w w0 w1 => ⟨(d3 w w0 w1).2.1, (d3 w w0 w1).2.2.1⟩
  have fitc := fun cc bt => y_fit_cg (B := B) (c := cc) (but := bt) d1.1 cg
  refine w100 hS (t133 hS (fun qc => ⟨qc, fun q10 => t141 hS hB bk qc (by decide) rfl d1 (fun w w0 w1 => (d3 w w0 w1).2.2.2.2.2.1) (fun fit => ⟨fun z => absurd z (by decide), fun _ => ⟨qc, ?_⟩⟩) (fun fit => ⟨fun _ => w100_28 hS (Or.inr (Or.inl ⟨rfl, by decide, p_exc hn hr (fun F H => t171 hS hB hB2 mk rfl nk mv (fun z => absurd qc z) (fun _ _ => H 0) (fun _ _ k => absurd ((fitc c (-1)).mp (by rw [← d2]; exact k)) fit))⟩)), fun z => absurd rfl z⟩), fun q10 => ?_⟩) (fun qc => Or.inr (Or.inr ⟨rfl, by decide, p_exc hn hr (fun F H => t171 hS hB hB2 mk rfl nk mv (fun _ => H 0) (fun z => absurd z qc) (fun z => absurd z qc))⟩)))
  · have n10 := (hB.1 c qc.1 qc.2).1
    have e1 := bk.1 c qc.1 qc.2
    have sr := hr.2.2.2.1.1
    refine t140 hS (i := B 0 c) (sr := M 10 0 14) e1 ⟨by omega, by omega⟩ rfl ⟨by omega, by have := hr.1.1; omega⟩ (fun M1 O1 a1 a14 a3 a13 => t45 hS (n := M 5 0 2) (by omega) (O1 _ _ _ (by omega) (by omega) (by omega)) d1 (fun M2 O2 b0 b2 b8 b35 bw M3 f3 => ⟨qc, ?_⟩))
    have O3 : ∀ (k : Nat) (m s : Int), ¬ (k = 5 ∧ m = 0 ∧ s = 2) → M3 k m s = M2 k m s := fun k m s q => by rw [f3]; unfold qU; rw [if_neg q]
    have e3 : M3 1 c 1 = B 0 c + 1 := by rw [O3 _ _ _ (by omega), O2 _ _ _ (by omega) (by omega) (by omega)]; exact a1
    rw [e3, show B 0 c + 1 - 1 = B 0 c by omega]
    refine ⟨⟨by omega, by omega⟩, fun M4 f4 => ?_⟩
    have O4 : ∀ (k : Nat) (m s : Int), k ≠ 138 → M4 k m s = M3 k m s := fun k m s q => by rw [f4, qU_k q]
    have OM : ∀ (k : Nat) (m s : Int), (11 ≤ k ∧ k ≤ 31) ∨ (64 ≤ k ∧ k ≤ 135) → M4 k m s = M k m s := fun k m s q => by
      rw [O4 k m s (by omega), O3 k m s (by omega), O2 k m s (by omega) (by omega) (by omega), O1 k m s (by omega) (by omega) (by omega)]
    have mk4 : m_bk B M4 := ⟨fun c a b => by rw [OM _ _ _ (by omega)]; exact mk.1 c a b, fun x a b => by rw [OM _ _ _ (by omega), OM _ _ _ (by omega), OM _ _ _ (by omega)]; exact mk.2.1 x a b, fun y a b => by rw [OM _ _ _ (by omega), OM _ _ _ (by omega), OM _ _ _ (by omega)]; exact mk.2.2.1 y a b, by rw [OM _ _ _ (by omega), OM _ _ _ (by omega), OM _ _ _ (by omega)]; exact mk.2.2.2⟩
    have cg4 : ∀ w, 0 ≤ w → w < M 5 0 2 → M4 73 0 w = M 33 0 w ∧ M4 74 0 w = M 34 0 w := fun w w0 w1 => by rw [OM _ _ _ (by omega), OM _ _ _ (by omega)]; exact cg w w0 w1
    have fit4 := (y_fit_cg (B := B) (c := c) (but := -1) d1.1 cg4).mpr fit
    refine t171 hS hB hB2 mk4 (n := M 5 0 2) (by rw [OM _ _ _ (by omega)]; exact d2) d1 (fun w w0 w1 => by rw [(cg4 w w0 w1).2]; exact (d3 w w0 w1).2.2.2.2.2.1) (fun z => absurd qc z) (fun _ z => absurd ⟨by omega, fit4⟩ z) (fun _ _ _ N ON w5 v67 v79 v12 v22 v64 v0 => ?_)
    have e5 : (1 : Int) + (10 * c + B 0 c) = 1 + 10 * c + B 0 c := by omega
    have OA : ∀ (k : Nat) (m s : Int), ¬ c_scr k s → ¬ y_cz c (10 * c + B 0 c) (M 5 0 2) k m s → N k m s = M k m s := fun k m s q q2 => by
      obtain ⟨n1, n2, n3, n4, n5, n6, n7, n8, n9, n10⟩ := y_cz_f q2
      rw [ON k m s n9 (fun z => n10 ⟨by rcases z.1 with e | e <;> simp [e], z.2⟩) (fun z => by
        rcases z.2.2 with e | e | e
        · exact q (Or.inr (Or.inr (Or.inr (Or.inr (Or.inr (Or.inr ⟨z.1, Or.inl e⟩))))))
        · exact n4 ⟨z.1, z.2.1, Or.inl e⟩
        · exact n4 ⟨z.1, z.2.1, Or.inr e⟩) n2, O4 k m s (fun z => q (Or.inl z)), O3 k m s n5, O2 k m s (fun z => n6 ⟨z.1, z.2.1.trans e5.symm, by rcases z.2.2 with e | e | e <;> simp [e]⟩) (fun z => n7 ⟨z.1, z.2.1.trans e5.symm, z.2.2⟩) (fun z => n8 ⟨z.1, z.2.1, z.2.2.1.trans e5.symm, z.2.2.2⟩), O1 k m s n1 n3 (fun z => n6 ⟨z.1, z.2.1.trans e5.symm, by simp [z.2.2]⟩)]
    have nN : ∀ (k : Nat) (m s : Int), k ≤ 63 → k ≠ 11 → N k m s = M3 k m s := fun k m s q q2 => by rw [ON k m s (by omega) (by omega) (by omega) (by omega), O4 k m s (by omega)]
    have nt : ¬ (10 * c + B 0 c) % 10 < B 0 ((10 * c + B 0 c) / 10) := by rw [show (10 * c + B 0 c) / 10 = c by omega]; omega
    have bx := hB2 (10 * c + B 0 c) (by omega) (by omega) nt
    have bkx := bk.2.1 (10 * c + B 0 c) (by omega) (by omega)
    have mkx := mk.2.1 (10 * c + B 0 c) (by omega) (by omega)
    have sm : ∀ (k : Nat), (65 ≤ k ∧ k ≤ 66) ∨ k = 68 → N k 0 (10 * c + B 0 c) = M k 0 (10 * c + B 0 c) := fun k q => by rw [ON _ _ _ (by omega) (by omega) (by omega) (by omega), OM _ _ _ (by omega)]
    refine ⟨v0, rfl, ?_, y_np B c (10 * c + B 0 c) (B 0 c + 1) 0 (B 2 (10 * c + B 0 c)) (M 5 0 2) (M 10 0 14 + 1) (M 32 0) (M 33 0) (M 34 0), c_rl_np hr hn qc ⟨n10.1, by omega⟩ rfl (Or.inl ⟨rfl, rfl⟩) d1 (Or.inr ⟨rfl, by have := fit.1; omega⟩) (fun w w0 w1 => (d3 w w0 w1).2.2.2) (y_np_lim ⟨n10.1, by omega⟩ rfl (Or.inl ⟨rfl, rfl, rfl⟩) n10 d1 hB.2.1 fit.2.2.2.1 fit.2.2.1 fit.2.1) OA ⟨?_, v64⟩ ⟨?_, ?_, v22⟩ ⟨?_, ?_, ?_, ?_⟩ ⟨?_, ?_, v67⟩ (fun w w0 w1 => ⟨⟨?_, ?_, ?_⟩, ?_⟩) ⟨fun _ => ⟨?_, v79⟩, fun z => absurd rfl z⟩ (fun s s0 s1 => ?_) (Or.inl ⟨sm 68 (by omega), rfl⟩) ⟨?_, ?_, fun w w0 w1 => ?_⟩⟩
    · rw [ON _ _ _ (by omega) (by omega) (by omega) (by omega), f4, qU_s]
    · rw [nN _ _ _ (by omega) (by omega)]; exact e3
    · rw [nN _ _ _ (by omega) (by omega), O3 _ _ _ (by omega), O2 _ _ _ (by omega) (by omega) (by omega)]; exact a14
    · rw [nN _ _ _ (by omega) (by omega), O3 _ _ _ (by omega), O2 _ _ _ (by omega) (by omega) (by omega)]; exact a13
    · rw [nN _ _ _ (by omega) (by omega), O3 _ _ _ (by omega), e5]; exact b0
    · rw [nN _ _ _ (by omega) (by omega), O3 _ _ _ (by omega), O2 _ _ _ (by omega) (by omega) (by omega), O1 _ _ _ (by omega) (by omega) (by omega)]; exact bkx.2.1
    · rw [nN _ _ _ (by omega) (by omega), O3 _ _ _ (by omega), e5]; exact b2
    · rw [nN _ _ _ (by omega) (by omega), O3 _ _ _ (by omega), O2 _ _ _ (by omega) (by omega) (by omega), e5]; exact a3
    · rw [sm 65 (by omega), mkx.1]; exact bx.1
    · rw [sm 66 (by omega)]; exact mkx.2.1
    · rw [nN _ _ _ (by omega) (by omega), O3 _ _ _ (by omega), e5, (bw w w0 w1).1]
      exact O1 _ _ _ (by omega) (by omega) (by omega)
    · rw [nN _ _ _ (by omega) (by omega), O3 _ _ _ (by omega), e5, (bw w w0 w1).2.1]
      exact O1 _ _ _ (by omega) (by omega) (by omega)
    · rw [nN _ _ _ (by omega) (by omega), O3 _ _ _ (by omega), e5, (bw w w0 w1).2.2]
      exact O1 _ _ _ (by omega) (by omega) (by omega)
    · have g := w5 w w0 w1
      have d3w := d3 w w0 w1
      rw [g.1, g.2.1, g.2.2, OM _ _ _ (by omega), OM _ _ _ (by omega), OM _ _ _ (by omega)]
      exact ⟨d3w.1, d3w.2.1, d3w.2.2.1⟩
    · rw [nN _ _ _ (by omega) (by omega), O3 _ _ _ (by omega), e5]; exact b8
    · rw [nN _ _ _ (by omega) (by omega), O3 _ _ _ (by omega), e5]; exact b35 s s0 s1
    · have : N 5 0 2 = 0 := by rw [nN _ _ _ (by omega) (by omega), f3, qU_s]
      omega
    · have : N 5 0 2 = 0 := by rw [nN _ _ _ (by omega) (by omega), f3, qU_s]
      omega
    · have : N 5 0 2 = 0 := by rw [nN _ _ _ (by omega) (by omega), f3, qU_s]
      omega
  · have n10 := (hB.1 c qc.1 qc.2).1
    have e1 := bk.1 c qc.1 qc.2
    exact w100_28 hS (Or.inr (Or.inl ⟨rfl, by decide, p_exc hn hr (fun F H => t171 hS hB hB2 mk rfl nk mv (fun z => absurd qc z) (fun _ _ => H 0) (fun _ k => absurd (show B 0 c = 10 by omega) k))⟩))
