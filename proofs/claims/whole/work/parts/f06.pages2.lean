/-! ===== pairs of answers on rows, pages, heads and texts ===== -/
def c_rwq (M : qM) (c r : Int) : Prop := (0 ≤ c ∧ c < 3) ∧ 0 ≤ r ∧ (M 11 0 22 ≠ 0 → r < M 87 0 c)
theorem c_rwq_fr {M M1 : qM} {c r : Int} (f : c_fr M M1) : c_rwq M1 c r ↔ c_rwq M c r := by
  unfold c_rwq
  rw [f 11 0 22 (by unfold c_scr; omega), f 87 0 c (by unfold c_scr; omega)]
theorem y_70 {B : pT} {en L : Int} {W : Int → Int} {R : c_R} {M : qM} (hB : c_ok B) (h : c_mdx B en W R L M) {c : Int} (hc : 0 ≤ c ∧ c < 3) : p_okB (r_A B R c) (B 0 c) ∧ p_SR (r_A B R c) (B 0 c) ≤ 67 := by
  obtain ⟨ob, B1, R1, out⟩ := h.2.2.1
  have := c_okB hB out.1 hc
  exact ⟨this, this.2.2⟩
theorem m_239 {d : Nat} {h : qH} (hS : qSe h) {n c r : Int} {B : pT} {M0 : qM} : y_ms n B M0 (c_rwq M0 c r) (fun M => M 92 0 (70 * c + r)) (e239 (d + 3) h c r) := fun M1 f1 h1 F H1 H2 H3 => by
  have fin : ∀ (k : Int) (N : qM), N = qU M1 11 0 0 k → (k = 1 → ¬ c_rwq M0 c r) → (k = 2 → c_rwq M0 c r ∧ M1 11 0 22 = 0) → (k = 0 → c_rwq M0 c r ∧ M1 11 0 22 ≠ 0) → (k = 0 ∨ k = 1 ∨ k = 2) → (((N 11 0 0) ≤ 0 → (qIn (70 * c) ∧ (qIn ((70 * c) + r) ∧ (0 ≤ ((70 * c) + r) ∧ ((70 * c) + r) < 210)))) ∧ (∀ x107 : Int, x107 = (if (N 11 0 0) ≤ 0 then (N 92 0 ((70 * c) + r)) else 0) → F x107 N)) := fun k N hN a1 a2 a0 hk => by
    have e : N 11 0 0 = k := by rw [hN, qU_s]
    rw [e]
    rcases hk with rfl | rfl | rfl
    · obtain ⟨q, m⟩ := a0 rfl
      obtain ⟨en, W, R, L, hx⟩ := y_mdx h1 (fun z => m ((y_b h1).2.2.1.mp z))
      have e87 := y_87 h1.1.2.1 hx q.1
      have b := (y_70 h1.1.2.1 hx q.1).2
      have q1 := ((c_rwq_fr f1).mpr q).2.2 m
      have q2 := q.1
      have q3 := q.2.1
      refine ⟨fun _ => ⟨⟨by omega, by omega⟩, ⟨by omega, by omega⟩, ⟨by omega, by omega⟩⟩, fun x hx' => ?_⟩
      have e2 : N 92 0 (70 * c + r) = M1 92 0 (70 * c + r) := by rw [hN, qU_k (by decide)]
      rw [if_pos (by decide), e2] at hx'
      have z := c_fr_0' hN
      rw [hx']; exact H1 q m N z.1 z.2.1 z.2.2
    · exact ⟨fun z => absurd z (by decide), fun x _ => H2 (a1 rfl) x N hN⟩
    · exact ⟨fun z => absurd z (by decide), fun x _ => H3 (a2 rfl).1 (a2 rfl).2 x N hN⟩
  have eq : c_rwq M0 c r ↔ (0 ≤ c ∧ c < 3) ∧ 0 ≤ r ∧ (M1 11 0 22 ≠ 0 → r < M1 87 0 c) := (c_rwq_fr f1).symm
  refine w239 hS (t155 hS (fun q => ⟨fun _ _ _ => q, fun x hx N hN => ?_⟩) (fun q => ⟨fun z => absurd rfl z, fun x hx N hN => ?_⟩))
  · rw [if_neg (by decide)] at hx
    by_cases r0 : r < 0
    · rw [if_pos r0] at hx
      exact fin x N hN (fun _ z => by have := z.2.1; omega) (fun z => by omega) (fun z => by omega) (by omega)
    · rw [if_neg r0] at hx
      by_cases m : M1 11 0 22 = 0
      · rw [if_pos m, if_pos m] at hx
        exact fin x N hN (fun z => by omega) (fun _ => ⟨eq.mpr ⟨q, by omega, fun z => absurd m z⟩, m⟩) (fun z => by omega) (by omega)
      · rw [if_neg m] at hx
        by_cases z : r < M1 87 0 c
        · rw [if_pos z, if_neg m] at hx
          exact fin x N hN (fun z => by omega) (fun z => by omega) (fun _ => ⟨eq.mpr ⟨q, by omega, fun _ => z⟩, m⟩) (by omega)
        · rw [if_neg z] at hx
          exact fin x N hN (fun _ y => z ((eq.mp y).2.2 m)) (fun z => by omega) (fun z => by omega) (by omega)
  · rw [if_pos rfl] at hx
    exact fin x N hN (fun _ z => q z.1) (fun z => by omega) (fun z => by omega) (by omega)
theorem y118 {d d' : Nat} {h : qH} (hS : qSe h) {n c r : Int} {B : pT} {M : qM} (hn : n < 512) (hr : c_rl n B M) : e118 (d + 2) h c r M (p_ok (n + 1) (e239 (d' + 3) h c r)) (p_ex (n + 1) (e239 (d' + 3) h c r) 0 2 1) := by
  have y := (y_b hr).2.2.1
  have no : ¬ c_rwq M c r → p_ex (n + 1) (e239 (d' + 3) h c r) 0 2 1 2 M := fun q => Or.inr (Or.inr ⟨rfl, by decide, y_ms_no hn hr (m_239 hS) q⟩)
  have go : c_rwq M c r → b118_42 d h (p_ok (n + 1) (e239 (d' + 3) h c r)) (p_ex (n + 1) (e239 (d' + 3) h c r) 0 2 1) c r M := fun q => by
    refine w118_42 hS (t138 hS (fun m => ?_) (fun m => Or.inr (Or.inl ⟨rfl, by decide, y_ms_un hn hr (m_239 hS) q m⟩)))
    obtain ⟨en, W, R, L, hx⟩ := y_mdx hr m
    obtain ⟨e0, h8, he⟩ := hr.2.2.1.2.2.2
    have e : M 10 0 8 - 1 = en := by have := hx.1; omega
    have hc := q.1
    have ch := y_ch hx hc
    have mk := y_mk hr.1.2.1 hx hc
    have r1 : r < p_SR (r_A B R c) (B 0 c) := by rw [← y_87 hr.1.2.1 hx hc]; exact q.2.2 (fun z => m (y.mpr z))
    have N0 : 0 < B 0 c := Classical.byContradiction fun z => by
      have b := (y_b hr).1 c hc.1 hc.2
      have e0 : B 0 c = 0 := by omega
      rw [e0] at r1
      have : p_SR (r_A B R c) 0 = 0 := rfl
      have := q.2.1
      omega
    have mk2 := mk.2 N0
    refine ⟨fun z => by omega, fun _ => ⟨hc, ?_⟩, fun z => by omega⟩
    rw [e]
    refine t85 hS (P := w_P (r_W R c)) ch.2.1 ⟨by omega, by omega⟩ ch.2.2.1 ⟨by omega, by omega⟩ (fun k hk => ?_)
    have pg := mk2.2.2
    have e8 : p_T (r_A B R c) (B 0 c) (B 8 1) 8 0 = p_SR (r_A B R c) (B 0 c) := rfl
    have q0 := q.2.1
    have kb : (0 ≤ k ∧ k < w_ct (r_W R c)) ∧ r < w_P (r_W R c) 0 k ∧ ∀ t, 0 ≤ t → t < k → ¬ r < w_P (r_W R c) 0 t := by
      rcases hk with hk | hk
      · exfalso
        have w0 := pg.2.2.2.1 (w_wr (r_W R c)) (Int.le_refl _) pg.1.2.1
        by_cases zw : w_wr (r_W R c) ≤ 0
        · have : g_bf (w_P (r_W R c)) 0 (w_wr (r_W R c)) = 0 := if_pos zw
          omega
        · have e1 : g_bf (w_P (r_W R c)) 0 (w_wr (r_W R c) - 1 + 1) = w_P (r_W R c) 0 (w_wr (r_W R c) - 1) := g_bf_s (by omega)
          rw [show w_wr (r_W R c) - 1 + 1 = w_wr (r_W R c) by omega] at e1
          exact hk.2 (w_wr (r_W R c) - 1) (by omega) (by have := pg.1.2.1; omega) (by omega)
      · exact hk
    have bf : g_bf (w_P (r_W R c)) 0 k ≤ r := by
      by_cases z : k ≤ 0
      · have : g_bf (w_P (r_W R c)) 0 k = 0 := if_pos z
        omega
      · have e1 : g_bf (w_P (r_W R c)) 0 k = w_P (r_W R c) 0 (k - 1) := if_neg z
        have := kb.2.2 (k - 1) (by omega) (by omega)
        omega
    rw [if_neg (by omega)]
    refine y_ms_v hn hr (m_239 hS) q m (fun M1 f1 h1 => ?_)
    have cd := (y_cd (c_mdx_fr f1 hx) hc).2 N0
    have := (cd.2.1 k kb.1.1 kb.1.2).2 r bf kb.2.1
    show M1 92 0 (70 * c + r) = _
    omega
  refine w118 hS (t133 hS (fun q => ⟨fun r0 => w118_32 hS (no (fun z => by have := z.2.1; omega)), fun r0 => ⟨fun m => go ⟨q, by omega, fun z => absurd (y.mp m) z⟩, fun m => ?_⟩⟩) (fun q => no (fun z => q z.1)))
  obtain ⟨en, W, R, L, hx⟩ := y_mdx hr m
  obtain ⟨e0, h8, he⟩ := hr.2.2.1.2.2.2
  have e : M 10 0 8 - 1 = en := by have := hx.1; omega
  have ch := (y_ch hx q).1.1.1
  refine ⟨fun z => by omega, fun _ => ⟨q, ?_⟩, fun z => by omega⟩
  rw [e, ch, ← y_87 hr.1.2.1 hx q]
  exact ⟨fun z => go ⟨q, by omega, fun _ => z⟩, fun z => w118_32 hS (no (fun y2 => z (y2.2.2 (fun y3 => m (y.mpr y3)))))⟩
theorem m_246 {d : Nat} {h : qH} (hS : qSe h) {n p b : Int} {B : pT} {M : qM} (val : Int) (hn : n < 512) (hr : c_rl n B M) (hv : ∀ M1, c_fr M M1 → c_rl n B M1 → M1 11 0 22 ≠ 0 → c_pgq M p → ∀ N, c_fr M1 N → (M1 105 0 p < 3 → ∀ (f : Int → qM → Prop) (u8 u9 u10 : qV), f val N → b246_39 d h f p b (N 105 0 p) (-1) (-1) (-1) 0 u8 u9 u10 N) ∧ (¬ M1 105 0 p < 3 → val = -1)) : y_ms n B M (c_pgq M p) (fun _ => val) (e246 (d + 2) h p b) := fun M1 f1 h1 F H1 H2 H3 =>
  w246 hS (t236 hS (fun q m N hN => ⟨fun z => absurd z (by decide), fun _ => by
    have b4 := c_pgq_400 h1 q m
    have z := c_fr_0' hN
    have hv' := hv M1 f1 h1 m ((c_pgq_fr f1).mp q) N z.1
    have e : N 105 0 p = M1 105 0 p := by rw [hN, qU_k (by decide)]
    refine ⟨b4, fun q3 => ⟨b4, hv'.1 (by rw [← e]; exact q3) F _ _ _ (H1 ((c_pgq_fr f1).mp q) m N z.1 z.2.1 z.2.2)⟩, fun q3 => ?_⟩
    have := hv'.2 (by rw [← e]; exact q3)
    rw [← this]
    exact H1 ((c_pgq_fr f1).mp q) m N z.1 z.2.1 z.2.2⟩) (fun q N hN => ⟨fun _ => H2 (fun z => q ((c_pgq_fr f1).mpr z)) (-1) N hN, fun z => absurd rfl z⟩) (fun q m N hN => ⟨fun _ => H3 ((c_pgq_fr f1).mp ⟨q, fun z => absurd m z⟩) m (-1) N hN, fun z => absurd rfl z⟩))
