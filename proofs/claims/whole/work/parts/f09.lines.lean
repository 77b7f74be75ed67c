/-! ===== lines of the index, sheets, lines of an item ===== -/
theorem y_L {n en L : Int} {B : pT} {W : Int → Int} {R : c_R} {M N : qM} (h : c_rl n B M) (hx : c_mdx B en W R L M) (f : c_fr M N) : x_L (M 27 0) (N 75 0) = L := by
  rw [hx.2.2.2.2.1.2.2.2.2.2.2.2]
  unfold x_L
  refine p_sum_cg (by decide) (fun t a b => ?_)
  show (M 27 0 t + 2) / 3 + (if N 75 0 t < 0 then 0 else 1) = _
  rw [f 75 0 t (by unfold c_scr; omega), ← (h.2.2.1.2.1 t a b).1]
theorem t253r {d : Nat} {h : qH} (hS : qSe h) {n en L : Int} {B : pT} {W : Int → Int} {R : c_R} {M N : qM} {F : Int → qM → Prop} (hr : c_rl n B M) (hx : c_mdx B en W R L M) (f : c_fr M N) (H : ∀ N', fr251 N N' → F L N') : e253 (d + 4) h N F := by
  have hN := c_rl_fr f hr
  have hxN := c_mdx_fr f hx
  have w := y_mw hN hxN
  have w0 := (y_mw hr hx).2.2.2
  refine t253 hS (n := M 27 0) (a := fun t => M 29 t) (b := fun t => M 31 t) w.1 w.2.1 w.2.2.1 (fun t a b => ⟨(w0 t a b).1, by have := (w0 t a b).2; omega⟩) (fun t a b => (hN.2.2.1.2.1 t a b).2.1) (fun N' O' => ?_)
  rw [y_L hr hx f]
  exact H N' O'
theorem t256 {d : Nat} {h : qH} (hS : qSe h) {M : qM} {F : Int → qM → Prop} (H1 : M 11 0 22 ≠ 0 → ∀ N, N = qU M 11 0 0 0 → e253 (d + 4) h N F) (H3 : M 11 0 22 = 0 → ∀ b N, N = qU M 11 0 0 1 → F b N) : e256 (d + 5) h M F :=
  w256 hS (t233 hS (fun q N hN => ⟨fun z => absurd z (by decide), fun _ => H1 q N hN⟩) (fun q N hN => ⟨fun _ => H3 q 0 N hN, fun z => absurd rfl z⟩))
theorem y129 {d d' : Nat} {h : qH} (hS : qSe h) {n : Int} {B : pT} {M : qM} (hn : n < 512) (hr : c_rl n B M) : e129 (d + 2) h M (p_ok (n + 1) (e256 (d' + 5) h)) (p_ex (n + 1) (e256 (d' + 5) h) 0 1 0) := by
  have y := (y_b hr).2.2.1
  refine w129 hS (t138 hS (fun m => ?_) (fun m => Or.inr (Or.inl ⟨rfl, by decide, p_exc hn hr (fun F H => t256 hS (fun z => absurd (y.mp m) z) (fun _ => H))⟩)))
  obtain ⟨en, W, R, L, hx⟩ := y_mdx hr m
  rw [hx.2.2.2.2.1.2.2.2.2.1]
  refine p_ans hn hr (fun M1 f1 h1 F H => t256 hS (fun _ N hN => ?_) (fun z => absurd (y.mpr (by rw [← f1 11 0 22 (by unfold c_scr; omega)]; exact z)) m))
  have z := c_fr_0' hN
  exact t253r hS hr hx (c_fr_t f1 z.1) (fun N' O' => H N' (c_fr_t z.1 (c_fr_251 O')) (by rw [O' _ _ _ (by omega)]; exact z.2.1) (by rw [O' _ _ _ (by omega)]; exact z.2.2))
theorem ix_b {D L x : Int} (hD : 8 ≤ D ∧ D ≤ 14) (hx : 0 ≤ x ∧ x < L) (hL : L ≤ 1000) : qIn (2 * D) ∧ 0 < 2 * D ∧ qIn (x / (2 * D) * 2) ∧ qIn (x / (2 * D) * 2 * D) ∧ qIn (L - x / (2 * D) * 2 * D) ∧ (0 ≤ x / (2 * D) ∧ x / (2 * D) ≤ 1000) ∧ 0 ≤ L - x / (2 * D) * 2 * D ∧ L - x / (2 * D) * 2 * D ≤ 1000 := by
  have dd : D = 8 ∨ D = 9 ∨ D = 10 ∨ D = 11 ∨ D = 12 ∨ D = 13 ∨ D = 14 := by omega
  unfold qIn
  rcases dd with rfl | rfl | rfl | rfl | rfl | rfl | rfl <;> omega
theorem x_col_b {D L x : Int} : 0 ≤ x_col D L x ∧ x_col D L x ≤ 1 := by
  unfold x_col
  split <;> omega
theorem t257 {d : Nat} {h : qH} (hS : qSe h) {x : Int} {M : qM} {F : Int → qM → Prop} (H1 : 0 ≤ x → M 11 0 22 ≠ 0 → ∀ N, N = qU M 11 0 0 0 → ∃ L D la, (8 ≤ D ∧ D ≤ 14) ∧ (0 ≤ L ∧ L ≤ 1000) ∧ (0 ≤ la ∧ la ≤ 1000) ∧ e253 (d + 4) h N (fun v N' => v = L ∧ N' 11 0 2 = D ∧ N' 11 0 71 = la + 1 ∧ F (if x < L then 10 * (la + 1 + x / (2 * D)) + x_col D L x else -1) N')) (H2 : x < 0 → ∀ b N, N = qU M 11 0 0 1 → F b N) (H3 : 0 ≤ x → M 11 0 22 = 0 → ∀ b N, N = qU M 11 0 0 2 → F b N) : e257 (d + 5) h x M F := by
  refine w257 hS (fun y hy N hN => ?_)
  have e : N 11 0 0 = y := by rw [hN, qU_s]
  rw [e]
  by_cases x0 : x < 0
  · rw [if_pos x0] at hy
    exact ⟨fun z => by omega, fun _ => H2 x0 0 N (by rw [hN, hy])⟩
  · rw [if_neg x0] at hy
    by_cases m : M 11 0 22 = 0
    · rw [if_pos m] at hy
      exact ⟨fun z => by omega, fun _ => H3 (by omega) m 0 N (by rw [hN, hy])⟩
    · rw [if_neg m] at hy
      refine ⟨fun _ => ?_, fun z => by omega⟩
      obtain ⟨L, D, la, hD, hL, hla, hh⟩ := H1 (by omega) m N (by rw [hN, hy])
      refine hh.imp (fun r σ hr => ?_)
      obtain ⟨v, N', rfl, rfl, rfl, e2, e71, hF⟩ := hr
      refine ⟨_, _, rfl, rfl, ?_⟩
      refine ⟨fun lt => ?_, fun lt => by rw [if_neg lt] at hF; exact hF⟩
      rw [e2]
      have ib := ix_b hD ⟨by omega, lt⟩ hL.2
      rw [if_pos lt] at hF
      refine ⟨ib.1, ⟨by omega, ib.2.1⟩, ib.1, ⟨by omega, ib.2.1⟩, ib.1, ib.2.2.1, ib.2.2.2.1, ib.2.2.2.2.1, t153 hS ?_⟩
      rw [e2, e71]
      have cm := x_col_m hD ⟨(show 0 ≤ x by omega), lt⟩
      have cb := x_col_b (D := D) (L := v) (x := x)
      generalize hv : (if 2 * D < v - x / (2 * D) * 2 * D then 2 * D else v - x / (2 * D) * 2 * D) = u at *
      have ub : 0 ≤ u ∧ u ≤ 1000 := by rw [← hv]; split <;> omega
      refine ⟨ib.1, fun _ => ⟨⟨by omega, by omega⟩, by omega⟩, fun y2 hy2 => ⟨⟨by omega, by omega⟩, ⟨by omega, by omega⟩, fun y3 hy3 => ?_⟩⟩
      rw [← hy2] at cm
      rw [← hy3] at cm
      rw [cm]
      exact ⟨⟨by omega, by omega⟩, hF⟩
theorem y130 {d d' : Nat} {h : qH} (hS : qSe h) {n x : Int} {B : pT} {M : qM} (hn : n < 512) (hr : c_rl n B M) : e130 (d + 3) h x M (p_ok (n + 1) (e257 (d' + 5) h x)) (p_ex (n + 1) (e257 (d' + 5) h x) 1 2 0) := by
  have y := (y_b hr).2.2.1
  refine w130 hS ⟨fun x0 => Or.inl ⟨rfl, by decide, p_exc hn hr (fun F H => t257 hS (fun z => absurd x0 (by omega)) (fun _ => H) (fun z => absurd x0 (by omega)))⟩, fun x0 => t138 hS (fun m => ?_) (fun m => Or.inr (Or.inl ⟨rfl, by decide, p_exc hn hr (fun F H => t257 hS (fun _ z => absurd (y.mp m) z) (fun z => absurd z x0) (fun _ _ => H))⟩))⟩
  obtain ⟨en, W, R, L, hx⟩ := y_mdx hr m
  obtain ⟨e0, h8, he⟩ := hr.2.2.1.2.2.2
  have e : M 10 0 8 - 1 = en := by have := hx.1; omega
  have hB := hr.1.2.1
  have hD := hB.2.2.2.2.2.2.2.1
  have t := y_tot hB hx
  have pb := c_p0_b hB
  have now := hx.2.2.2.2.1.2.2.2.2
  have e3 : M 4 0 3 = L := now.1
  have hL := hx.2.1
  have mdl : ∀ v, (if x < L then 10 * (c_lal B R + 1 + x / (2 * B 8 1)) + x_col (B 8 1) L x else -1) = v → p_ok (n + 1) (e257 (d' + 5) h x) v M := fun v hv => by
    refine p_ans hn hr (fun M1 f1 h1 F H => t257 hS (fun _ _ N hN => ?_) (fun z => absurd z x0) (fun _ z => absurd (y.mpr (by rw [← f1 11 0 22 (by unfold c_scr; omega)]; exact z)) m))
    have z := c_fr_0' hN
    have fN := c_fr_t f1 z.1
    have hN2 := c_rl_fr fN hr
    have hxN := c_mdx_fr fN hx
    refine ⟨L, B 8 1, c_lal B R, hD, hL, ⟨by omega, by omega⟩, t253r hS hr hx fN (fun N' O' => ⟨rfl, ?_, ?_, ?_⟩)⟩
    · rw [O' _ _ _ (by omega)]; exact hN2.2.1.2.1.2.2.2.2.1
    · rw [O' _ _ _ (by omega)]; exact hxN.2.2.2.2.2.1.2.2.2.2.1
    · rw [hv]; exact H N' (c_fr_t z.1 (c_fr_251 O')) (by rw [O' _ _ _ (by omega)]; exact z.2.1) (by rw [O' _ _ _ (by omega)]; exact z.2.2)
  rw [e3, e]
  refine ⟨fun lt => ⟨fun z => by omega, fun _ => ?_, fun z => by omega⟩, fun lt => mdl (-1) (if_neg lt)⟩
  rw [t.2.2.1]
  have ib := ix_b hD ⟨(show 0 ≤ x by omega), lt⟩ hL.2
  have cb := x_col_b (D := B 8 1) (L := L) (x := x)
  refine ⟨⟨by omega, by omega⟩, t41 hS now.2.2.1 ⟨by omega, hD.2⟩ ⟨by omega, by omega⟩ ?_⟩
  rw [if_neg (show ¬ B 8 1 ≤ 0 by omega)]
  refine ⟨⟨by omega, by omega⟩, ⟨by omega, by omega⟩, t42 hS hD now.2.2.1 e3 now.2.1 ⟨by omega, lt⟩ hL.2 ⟨⟨by omega, by omega⟩, mdl _ (by rw [if_pos lt])⟩⟩
theorem t258 {d : Nat} {h : qH} (hS : qSe h) {M : qM} {F : Int → qM → Prop} (hb : M 11 0 22 ≠ 0 → 0 ≤ M 11 0 58 ∧ M 11 0 58 ≤ 1000) (H1 : M 11 0 22 ≠ 0 → ∀ N, N = qU M 11 0 0 0 → F ((M 11 0 58 + 3) / 4) N) (H3 : M 11 0 22 = 0 → ∀ b N, N = qU M 11 0 0 1 → F b N) : e258 (d + 2) h M F := by
  refine w258 hS (t233 hS (fun q N hN => ?_) (fun q N hN => ⟨fun z => absurd rfl z, fun x hx => H3 q x N hN⟩))
  have b := hb q
  have e : N 11 0 58 = M 11 0 58 := by rw [hN, qU_l (by decide)]
  rw [e]
  exact ⟨fun _ => ⟨⟨by omega, by omega⟩, by omega⟩, fun x hx => by rw [hx, if_neg (by decide)]; exact H1 q N hN⟩
theorem y131 {d d' : Nat} {h : qH} (hS : qSe h) {n : Int} {B : pT} {M : qM} (hn : n < 512) (hr : c_rl n B M) : e131 (d + 2) h M (p_ok (n + 1) (e258 (d' + 2) h)) (p_ex (n + 1) (e258 (d' + 2) h) 0 1 0) := by
  have y := (y_b hr).2.2.1
  refine w131 hS (t138 hS (fun m => ?_) (fun m => Or.inr (Or.inl ⟨rfl, by decide, p_exc hn hr (fun F H => t258 hS (fun z => absurd (y.mp m) z) (fun z => absurd (y.mp m) z) (fun _ => H))⟩)))
  obtain ⟨en, W, R, L, hx⟩ := y_mdx hr m
  obtain ⟨e0, h8, he⟩ := hr.2.2.1.2.2.2
  have e : M 10 0 8 - 1 = en := by have := hx.1; omega
  have t := y_tot hr.1.2.1 hx
  have pb := c_p0_b hr.1.2.1
  refine ⟨fun z => by omega, fun _ => ?_, fun z => by omega⟩
  rw [e, t.2.1]
  refine w144 hS ⟨⟨by omega, by omega⟩, by omega, ?_⟩
  refine p_ans0 hn hr (fun M1 f1 h1 F H => t258 hS (fun _ => ?_) (fun _ N hN => ?_) (fun z => absurd (y.mpr (by rw [← f1 11 0 22 (by unfold c_scr; omega)]; exact z)) m))
  · rw [f1 11 0 58 (by unfold c_scr; omega), t.1]; exact ⟨by omega, by omega⟩
  · rw [f1 11 0 58 (by unfold c_scr; omega), t.1]; exact H N hN
